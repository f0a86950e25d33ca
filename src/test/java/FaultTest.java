/** Promises 16 and 17: fault, read. */
public final class FaultTest {
    private static final String NO_FIELDS = "00 00 00 00 00 00 00 00";
    private static final int[] TYPES = {
        100, 101, 110, 220, 221, 230, 400, 401, 410, 420, 421, 430, 500, 501, 510, 800, 810};

    private FaultTest() {
    }

    public static void main(String[] args) {
        shortOfAnything();
        typeOfAnything();
        mapOfAnyBit();
        mapsOrder();
        digitsOfCard();
        digitsOfFixed();
        lettersOfFixed();
        note();
        behind();
        wrongWhat();
        readTakesAll();
        readOfFault();
        Due.end("FaultTest");
    }

    private static void found(String hex, int kind, int place) {
        CardMessages x = Due.taped(hex);
        x.message(1234);
        x.digits(2, 99);
        String before = Due.draft(x);
        String tape = Due.hex(x);
        Due.due(hex + ": fault(0)", x.fault(0), kind);
        Due.due(hex + ": fault(1)", x.fault(1), place);
        Due.due(hex + ": fault leaves the draft", Due.draft(x), before);
        Due.due(hex + ": read()", x.read(), kind == 0);
        if (kind != 0) {
            Due.due(hex + ": the draft stays", Due.draft(x), before);
        }
        Due.due(hex + ": the tape stays", Due.hex(x), tape);
    }

    private static void shortOfAnything() {
        String all = fullTape();
        found(all, 0, CardMessages.NONE);
        for (int bytes = 0; bytes < all.length() / 2; bytes++) {
            found(all.substring(0, 2 * bytes), 1, bytes);
        }
    }

    private static String fullTape() {
        CardMessages x = new CardMessages();
        x.digits(2, 1234567);
        x.digits(3, 1);
        x.digits(4, 1);
        x.digits(11, 1);
        x.digits(32, 12);
        x.letters(37, 1, 0);
        x.letters(38, 1, 0);
        x.letters(39, 1, 0);
        x.letters(41, 1, 0);
        x.digits(49, 1);
        x.letters(54, 1, 5);
        x.digits(70, 1);
        x.digits(74, 1);
        x.digits(86, 1);
        x.digits(90, 1);
        x.digits(95, 1);
        x.compose();
        return Due.hex(x);
    }

    private static void typeOfAnything() {
        for (int type = 0; type <= 9999; type++) {
            boolean known = false;
            for (int one : TYPES) {
                known |= one == type;
            }
            CardMessages x = new CardMessages();
            x.message(type);
            x.compose();
            Due.due("fault(0) of type " + type, x.fault(0), known ? 0 : 3);
            Due.due("fault(1) of type " + type, x.fault(1), known ? CardMessages.NONE : 0);
        }
        found("01", 1, 1);
        found("FF", 1, 1);
        found("A1 00", 2, 0);
        found("0A 00", 2, 0);
        found("01 A0", 2, 1);
        found("01 0A", 2, 1);
        found("09 F0", 2, 1);
        // The type is asked before the map is looked for.
        found("01 02", 3, 0);
        found("02 00 FF", 3, 0);
        found("01 00", 1, 2);
    }

    private static void mapOfAnyBit() {
        for (int field = 2; field <= 128; field++) {
            boolean known = false;
            for (int one : Due.FIELDS) {
                known |= one == field;
            }
            byte[] maps = new byte[16];
            maps[0] = (byte) 0x80;
            maps[11] |= 0x02;
            maps[(field - 1) / 8] |= (byte) (0x80 >> (field - 1) % 8);
            StringBuilder hex = new StringBuilder("0800");
            for (byte one : maps) {
                hex.append(String.format("%02X", one));
            }
            if (known) {
                found(hex.toString(), 1, 18);
            } else {
                found(hex.toString(), 4, 2 + (field - 1) / 8);
            }
        }
    }

    private static void mapsOrder() {
        found("0800" + NO_FIELDS, 0, CardMessages.NONE);
        found("0800 80 00 00 00 00 00 00 00", 1, 10);
        found("0800 88 00 00 00 00 00 00 00", 1, 10);
        found("0800 80 00 00 00 00 00 00 00 00 00 00 00 00 00 00", 1, 17);
        found("0800 80 00 00 00 00 00 00 00" + NO_FIELDS, 4, 10);
        found("0800 80 00 00 00 00 00 00 00" + NO_FIELDS + "FF FF", 4, 10);
        found("0800 80 00 00 00 00 00 00 01" + NO_FIELDS, 4, 9);
        found("0800 80 00 00 00 00 00 00 00 80 00 00 00 00 00 00 00", 4, 10);
        found("0800 80 00 00 00 00 00 00 00 00 00 00 00 01 00 00 80", 4, 14);
        found("0800 80 00 FF 00 00 00 00 00 00 00 00 00 01 00 00 80", 4, 4);
        found("0800 08 00 00 00 00 00 00 00", 4, 2);
        found("0800 00 00 00 00 00 00 00 01", 4, 9);
        // A known bit of a map is no fault by itself, so the field is looked for.
        found("0800 40 00 00 00 00 00 00 00", 1, 10);
    }

    private static void digitsOfCard() {
        String card = "0800 40 00 00 00 00 00 00 00";
        found(card + "01 05", 0, CardMessages.NONE);
        found(card + "19 01 23 45 67 89 01 23 45 67 89", 0, CardMessages.NONE);
        found(card + "00", 5, 10);
        found(card + "20", 5, 10);
        found(card + "99", 5, 10);
        found(card + "1A", 2, 10);
        found(card + "A1", 2, 10);
        found(card + "03 01", 1, 12);
        found(card + "03 A1", 1, 12);
        found(card + "03 11 11", 2, 11);
        found(card + "03 A1 11", 2, 11);
        found(card + "03 0A 11", 2, 11);
        found(card + "03 01 A1", 2, 12);
        found(card + "03 01 1A", 2, 12);
        found(card + "04 91 19", 0, CardMessages.NONE);
        found(card + "04 91 F9 00", 2, 12);
        String acquirer = "0800 00 00 00 01 00 00 00 00";
        found(acquirer + "11 01 23 45 67 89 01", 0, CardMessages.NONE);
        found(acquirer + "11 11 23 45 67 89 01", 2, 11);
        found(acquirer + "12 12 34 56 78 90 12", 5, 10);
        found(acquirer + "00", 5, 10);
        found(acquirer + "0B", 2, 10);
        // The card comes ahead of the acquirer, whatever is wrong there.
        found("0800 40 00 00 01 00 00 00 00 01 0F 12", 2, 11);
        found("0800 40 00 00 01 00 00 00 00 01 05 12", 5, 12);
    }

    private static void digitsOfFixed() {
        found("0800 20 00 00 00 00 00 00 00 12 34 56", 0, CardMessages.NONE);
        found("0800 20 00 00 00 00 00 00 00 12 34 5F", 2, 12);
        found("0800 20 00 00 00 00 00 00 00 F2 34", 1, 12);
        String currency = "0800 00 00 00 00 00 00 80 00";
        found(currency + "09 99", 0, CardMessages.NONE);
        found(currency + "19 99", 2, 10);
        found(currency + "F9 99", 2, 10);
        found(currency + "0A 99", 2, 10);
        found(currency + "09 A9", 2, 11);
        found("0800 80 00 00 00 00 00 00 00 04 00 00 00 00 00 00 00 13 01", 2, 18);
    }

    private static void lettersOfFixed() {
        for (int value = 0; value < 256; value++) {
            boolean letter = "0123456789ABCDEFGHIJKLMNOPQRSTUVWXYZ".indexOf(value) >= 0;
            String tape = "0800 00 00 00 00 02 00 00 00 30" + String.format("%02X", value);
            found(tape, letter ? 0 : 6, letter ? CardMessages.NONE : 11);
        }
        found("0800 00 00 00 00 02 00 00 00 2F 2F", 6, 10);
        found("0800 00 00 00 00 02 00 00 00 2F", 1, 11);
    }

    private static void note() {
        String note = "0800 00 00 00 00 00 00 04 00";
        found(note + "00", 1, 11);
        found(note + "F0", 1, 11);
        found(note + "00 00", 5, 10);
        found(note + "00 41" + "30".repeat(41), 5, 10);
        found(note + "09 99", 5, 10);
        found(note + "01 00" + "30".repeat(100), 5, 10);
        found(note + "10 01 30", 2, 10);
        found(note + "0A 01 30", 2, 10);
        found(note + "00 A1 30", 2, 11);
        found(note + "00 0F 30", 2, 11);
        found(note + "00 01 5A", 0, CardMessages.NONE);
        found(note + "00 40" + "39".repeat(40), 0, CardMessages.NONE);
        found(note + "00 40" + "39".repeat(39), 1, 51);
        found(note + "00 40" + "39".repeat(39) + "61", 6, 51);
    }

    private static void behind() {
        found("0800" + NO_FIELDS + "00", 7, 10);
        found("0800" + NO_FIELDS + "00 00 00", 7, 10);
        found("0800 40 00 00 00 00 00 00 00 01 05 FF", 7, 12);
        CardMessages longest = Due.taped("0800" + NO_FIELDS + "00".repeat(390));
        Due.due("fault(0) of the longest tape", longest.fault(0), 7);
        Due.due("fault(1) of the longest tape", longest.fault(1), 10);
        Due.due("read() of the longest tape", longest.read(), false);
    }

    private static void wrongWhat() {
        CardMessages x = new CardMessages();
        for (int what : new int[] {-1, 2, 3, 7, Integer.MIN_VALUE, Integer.MAX_VALUE}) {
            Due.refused("fault(" + what + ")", () -> x.fault(what));
        }
    }

    private static void readTakesAll() {
        String tape = ("0430 F0 20 00 01 0E 80 84 00 04 40 04 42 00 00 00 00"
                + "03 00 12" + "000003" + "123456789012" + "987654" + "11 01 23 45 67 89 01"
                + "5A5958575655545352515049" + "414243444546" + "3039" + "5A5A5A5A30313233" + "0978"
                + "0003 58595A" + "0301" + "1234567890" + "1234567890123456"
                + "123456789012345678901234567890123456789012" + "210987654321").replace(" ", "");
        String want = "430/16 2=012 3=000003 4=123456789012 11=987654 32=12345678901"
                + " 37=ZYXWVUTSRQPI 38=ABCDEF 39=09 41=ZZZZ0123 49=978 54=XYZ 70=301 74=1234567890"
                + " 86=1234567890123456 90=123456789012345678901234567890123456789012 95=210987654321";
        CardMessages x = Due.taped(tape);
        x.digits(2, 7777777);
        Due.due("read() of all", x.read(), true);
        Due.due("the draft", Due.draft(x), want);
        Due.due("a number with a 0 in front", x.number(2), 12);
        Due.due("number(90)", x.number(90), 567890123456789012L);
        composedAgain(tape);
        cardOfNineteen();
        readIsACopy();
    }

    private static void composedAgain(String tape) {
        CardMessages x = Due.taped(tape);
        x.read();
        x.trim(x.trim(0));
        x.compose();
        Due.due("composed again", Due.hex(x), tape);
        Due.load(x, "0100" + NO_FIELDS);
        Due.due("the tape's bytes are not the draft's", Due.marks(x, 54), "XYZ");
        Due.due("read() of none", x.read(), true);
        Due.due("the draft", Due.draft(x), "100/0");
    }

    private static void cardOfNineteen() {
        CardMessages x = Due.taped("0800 40 00 00 00 00 00 00 00 19 09 99 99 99 99 99 99 99 99 99");
        Due.due("read() of 19 nines", x.read(), true);
        Due.due("size(2)", x.size(2), 19);
        Due.due("number(2)", x.number(2), 999999999999999999L);
    }

    private static void readIsACopy() {
        CardMessages x = Due.taped("0800 20 00 00 00 00 00 00 00 12 34 56");
        x.read();
        x.digits(3, 9);
        x.digits(11, 8);
        Due.due("fault(0) with a changed draft", x.fault(0), 0);
        Due.due("fault leaves the draft", Due.draft(x), "800/2 3=000009 11=000008");
        Due.due("read() again", x.read(), true);
        Due.due("the draft is the tape's again", Due.draft(x), "800/1 3=123456");
    }

    private static void readOfFault() {
        // The fault comes last, so that all fields but one could have been taken.
        CardMessages x = Due.taped("0430 60 00 00 00 00 00 00 00 03 00 12 00 00 0F");
        x.message(7);
        x.digits(2, 5);
        x.letters(39, 0, 0);
        Due.due("read() of a fault", x.read(), false);
        Due.due("the draft stays", Due.draft(x), "7/2 2=5 39=00");
        x.spoil(15, 0x0F);
        Due.due("read() of the mended tape", x.read(), true);
        Due.due("the draft", Due.draft(x), "430/2 2=012 3=000000");
        CardMessages empty = new CardMessages();
        Due.due("read() of an empty tape", empty.read(), false);
    }
}
