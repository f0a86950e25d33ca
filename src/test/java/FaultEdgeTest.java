/**
 * Promises 16 and 17, and each kind of fault: each sentence that names a boundary case, on both
 * sides of it. The comment ahead of a test is the sentence.
 */
public final class FaultEdgeTest {
    private static final int SHORT = 1;
    private static final int DIGIT = 2;
    private static final int TYPE = 3;
    private static final int MAP = 4;
    private static final int LENGTH = 5;
    private static final int LETTER = 6;
    private static final int BEHIND = 7;
    private static final String NO_MAP = "0000000000000000";
    private static final String CARD = "0800 4000000000000000";
    private static final String ACQUIRER = "0800 0000000100000000";
    private static final String NOTE = "0800 0000000000000400";
    private static final String RESPONSE = "0800 0000000002000000";
    private static final String CURRENCY = "0800 0000000000008000";

    // A message with all fields, in the parts that are looked for one by one. Ahead of each: t the
    // type, m a map, c how many, d an even number of digits, o an odd one behind a 0, l letters.
    private static final String[] PARTS = {
        "t0430", "mF02000010E808400", "m0440044200000000", "c03", "o0123", "d000003", "d123456789012", "d987654",
        "c11", "o012345678901", "l5A5958575655545352515049", "l414243444546", "l3039", "l5A5A5A5A30313233", "o0978",
        "c0040", "l" + "58595A39".repeat(10), "o0301", "d1234567890", "d1234567890123456",
        "d123456789012345678901234567890123456789012", "d210987654321"};
    private static final String PARTS_DRAFT = "430/16 2=123 3=000003 4=123456789012 11=987654 32=12345678901"
            + " 37=ZYXWVUTSRQPI 38=ABCDEF 39=09 41=ZZZZ0123 49=978 54=" + "XYZ9".repeat(10)
            + " 70=301 74=1234567890 86=1234567890123456 90=123456789012345678901234567890123456789012"
            + " 95=210987654321";

    private FaultEdgeTest() {
    }

    public static void main(String[] args) {
        whatBounds();
        noneOfAny();
        shortOfEachPart();
        digitAboveNine();
        zeroInFront();
        typeBesideEachKnown();
        mapOfEachBitAlone();
        mapAtItsFirstByte();
        secondMapWithoutBits();
        bothMapsAreReadFirst();
        lengthOfCard();
        lengthOfAcquirer();
        lengthOfNote();
        letterBesideEachBound();
        behindTheLast();
        behindUpToFourHundred();
        wholeBeforeItsBytes();
        firstThatIsMet();
        faultChangesNothing();
        readOfEachKindOfFault();
        readBecomesTheTape();
        readOfLeastAndMost();
        readLeavesTheTape();
        Due.end("FaultEdgeTest");
    }

    /** What fault tells of these bytes; a fault also stops read, which then changes nothing. */
    private static void found(String spacedHex, int kind, int place) {
        String hex = spacedHex.replace(" ", "");
        CardMessages x = Due.taped(hex);
        x.message(1234);
        x.digits(2, 99);
        x.letters(39, -1, 0);
        Due.due(hex + ": fault(0)", x.fault(0), kind);
        Due.due(hex + ": fault(1)", x.fault(1), place);
        Due.due(hex + ": read()", x.read(), kind == 0);
        if (kind != 0) {
            Due.due(hex + ": the draft stays", Due.draft(x), "1234/2 2=99 39=VV");
        }
        Due.due(hex + ": the tape stays", Due.hex(x), hex);
    }

    private static void sound(String spacedHex) {
        found(spacedHex, 0, CardMessages.NONE);
    }

    private static String upTo(int part) {
        StringBuilder text = new StringBuilder();
        for (int i = 0; i < part; i++) {
            text.append(PARTS[i].substring(1));
        }
        return text.toString();
    }

    private static String all() {
        return upTo(PARTS.length);
    }

    private static String withHalf(int half, int value) {
        String digit = Integer.toHexString(value).toUpperCase();
        return all().substring(0, half) + digit + all().substring(half + 1);
    }

    // ---- 16, fault

    /** "what = 0 the kind of its fault .. 1 where it is .. Illegal argument." */
    private static void whatBounds() {
        for (int what : new int[] {Integer.MIN_VALUE, -1, 2, 3, 7, 256, Integer.MAX_VALUE}) {
            States.refused("fault(" + what + ")", x -> x.fault(what));
        }
        CardMessages x = States.made(States.FAULTY);
        Due.due("fault(0)", x.fault(0), LETTER);
        Due.due("fault(1)", x.fault(1), 11);
    }

    /** "0 for none; .. NONE for none." */
    private static void noneOfAny() {
        sound("0800" + NO_MAP);
        sound(all());
        sound(CARD + "01 00");
        CardMessages x = Due.taped("0800" + NO_MAP);
        Due.due("fault(0) for none", x.fault(0), 0);
        Due.due("fault(1) for none", x.fault(1), CardMessages.NONE);
        x.spoil(0, 0x10);
        Due.due("fault(0) of a fault at 0", x.fault(0), TYPE);
        Due.due("fault(1) of a fault at 0", x.fault(1), 0);
        x.spoil(0, 0x10);
        Due.due("fault(0) of the mended tape", x.fault(0), 0);
        Due.due("fault(1) of the mended tape", x.fault(1), CardMessages.NONE);
    }

    /** "1 SHORT: it ends before what is to be read does, at its length" */
    private static void shortOfEachPart() {
        found("", SHORT, 0);
        for (int part = 0; part < PARTS.length; part++) {
            int from = upTo(part).length() / 2;
            int to = upTo(part + 1).length() / 2;
            for (int bytes = from; bytes < to; bytes++) {
                found(all().substring(0, 2 * bytes), SHORT, bytes);
            }
        }
        sound(all());
    }

    /** "2 DIGIT: half a byte that is above 9 .. at this byte" */
    private static void digitAboveNine() {
        for (int part = 0; part < PARTS.length; part++) {
            char kind = PARTS[part].charAt(0);
            int first = upTo(part).length() + (kind == 'o' ? 1 : 0);
            for (int half = first; half < upTo(part + 1).length() && "tcod".indexOf(kind) >= 0; half++) {
                boolean free = kind == 'o' || kind == 'd';
                for (int value = free ? 8 : 10; value <= 9; value++) {
                    sound(withHalf(half, value));
                }
                // The count of 54 has its 0 in front like any other odd digits.
                for (int value : new int[] {10, 11, 15}) {
                    found(withHalf(half, value), DIGIT, half / 2);
                }
            }
        }
    }

    /** ".. or a 0 in front of odd digits that is none, at this byte" */
    private static void zeroInFront() {
        for (int part = 0; part < PARTS.length; part++) {
            if (PARTS[part].charAt(0) == 'o' || PARTS[part].equals("c0040")) {
                int half = upTo(part).length();
                for (int value = 1; value <= 15; value++) {
                    found(withHalf(half, value), DIGIT, half / 2);
                }
                sound(withHalf(half, 0));
            }
        }
        found(CARD + "01 10", DIGIT, 11);
        sound(CARD + "02 10");
        found(CARD + "19 19 99 99 99 99 99 99 99 99 99", DIGIT, 11);
        sound(CARD + "18 99 99 99 99 99 99 99 99 99");
    }

    /** "3 TYPE: it is none of 100, 101, 110, 220, .. 800, 810, at 0" */
    private static void typeBesideEachKnown() {
        int[] types = {100, 101, 110, 220, 221, 230, 400, 401, 410, 420, 421, 430, 500, 501, 510, 800, 810};
        for (int type : types) {
            sound(Fields.padded(type, 4) + NO_MAP);
        }
        int[] others = {0, 1, 10, 99, 102, 109, 111, 219, 222, 229, 231, 399, 402, 409, 411, 419, 422, 429, 431, 499,
            502, 509, 511, 799, 801, 809, 811, 1000, 1100, 4300, 8000, 8100, 9999};
        for (int type : others) {
            found(Fields.padded(type, 4) + NO_MAP, TYPE, 0);
        }
    }

    private static String maps(int... fields) {
        byte[] bytes = new byte[16];
        for (int field : fields) {
            bytes[(field - 1) / 8] |= (byte) (0x80 >> (field - 1) % 8);
        }
        StringBuilder text = new StringBuilder();
        for (byte one : bytes) {
            text.append(String.format("%02X", one));
        }
        return text.toString();
    }

    private static String firstMap(int... fields) {
        return maps(fields).substring(0, 16);
    }

    /** "4 MAP: a bit of a field that is not known is 1" */
    private static void mapOfEachBitAlone() {
        for (int field = 2; field <= 64; field++) {
            if (Fields.isKnown(field)) {
                found("0800" + firstMap(field), SHORT, 10);
            } else {
                found("0800" + firstMap(field), MAP, 2 + (field - 1) / 8);
            }
        }
        for (int field = 65; field <= 128; field++) {
            if (Fields.isKnown(field)) {
                found("0800" + maps(1, field), SHORT, 18);
            } else {
                found("0800" + maps(1, field), MAP, 2 + (field - 1) / 8);
            }
        }
        // Without its bit there is no second map: these bytes lie behind the message.
        found("0800" + maps(65), BEHIND, 10);
    }

    /** ".. at the first byte of the maps with one" */
    private static void mapAtItsFirstByte() {
        found("0800" + firstMap(5, 6, 64), MAP, 2);
        found("0800" + firstMap(2, 3, 4, 9, 64), MAP, 3);
        found("0800" + firstMap(2, 3, 4, 11, 64), MAP, 9);
        found("0800" + maps(1, 64, 65), MAP, 9);
        found("0800" + maps(1, 2, 54, 65, 128), MAP, 10);
        found("0800" + maps(1, 2, 54, 70, 128), MAP, 17);
        found("0800" + maps(1, 70, 71, 128), MAP, 10);
        found("0800" + maps(1, 95, 96), MAP, 13);
        found("0800" + maps(1, 5, 6, 7, 8), MAP, 2);
    }

    /** ".. or the second map has no bit, at its first byte" */
    private static void secondMapWithoutBits() {
        found("0800" + maps(1), MAP, 10);
        found("0800" + maps(1, 2) + "01 05", MAP, 10);
        found("0800" + maps(1, 5), MAP, 2);
        found("0800" + maps(1) + "FF", MAP, 10);
        for (int field : new int[] {70, 74, 86, 90, 95}) {
            sound("0800" + maps(1, field) + "00".repeat((Fields.most(field) + 1) / 2));
        }
    }

    /** "(Both maps are read before 4 is asked.)" */
    private static void bothMapsAreReadFirst() {
        String second = "0400000000000000";
        for (int bytes = 0; bytes < 8; bytes++) {
            found("0800" + firstMap(1, 5) + second.substring(0, 2 * bytes), SHORT, 10 + bytes);
            found("0800" + firstMap(1) + "FF".repeat(bytes), SHORT, 10 + bytes);
            found("0800" + "FF".repeat(bytes), SHORT, 2 + bytes);
        }
        found("0800" + firstMap(1, 5) + second, MAP, 2);
        found("0800" + "FF".repeat(8), SHORT, 10);
        found("0800" + "FF".repeat(16), MAP, 2);
        found("0800" + "7F" + "FF".repeat(7), MAP, 2);
    }

    /** "5 LENGTH: a number of digits or letters is out of its bounds, at its first byte": 2 has 1 .. 19. */
    private static void lengthOfCard() {
        for (int count = 0; count <= 99; count++) {
            boolean fits = count >= 1 && count <= 19;
            String tape = CARD + Fields.padded(count, 2) + "00".repeat((count + 1) / 2);
            found(tape, fits ? 0 : LENGTH, fits ? CardMessages.NONE : 10);
        }
    }

    /** The same: 32 has 1 .. 11. */
    private static void lengthOfAcquirer() {
        for (int count = 0; count <= 99; count++) {
            boolean fits = count >= 1 && count <= 11;
            String tape = ACQUIRER + Fields.padded(count, 2) + "00".repeat((count + 1) / 2);
            found(tape, fits ? 0 : LENGTH, fits ? CardMessages.NONE : 10);
        }
    }

    /** The same: 54 has 1 .. 40. */
    private static void lengthOfNote() {
        for (int count = 0; count <= 50; count++) {
            boolean fits = count >= 1 && count <= 40;
            String tape = NOTE + Fields.padded(count, 4) + "30".repeat(count);
            found(tape, fits ? 0 : LENGTH, fits ? CardMessages.NONE : 10);
        }
        for (int count : new int[] {99, 100, 101, 140, 199, 256, 296, 999}) {
            found(NOTE + Fields.padded(count, 4) + "30".repeat(Math.min(count, 300)), LENGTH, 10);
        }
    }

    /** "6 LETTER: a byte that is none, at it" */
    private static void letterBesideEachBound() {
        for (int part = 0; part < PARTS.length; part++) {
            for (int half = upTo(part).length(); half < upTo(part + 1).length()
                    && PARTS[part].charAt(0) == 'l'; half += 2) {
                String front = all().substring(0, half);
                String rest = all().substring(half + 2);
                for (String letter : new String[] {"30", "39", "41", "5A"}) {
                    sound(front + letter + rest);
                }
                for (String none : new String[] {"00", "2F", "3A", "40", "5B", "61", "7A", "80", "B0", "C1", "FF"}) {
                    found(front + none + rest, LETTER, half / 2);
                }
            }
        }
    }

    /** "7 BEHIND: bytes behind the last field, at the first one." */
    private static void behindTheLast() {
        String[] whole = {"0800" + NO_MAP, CARD + "01 05", CARD + "02 15", NOTE + "00 01 5A", RESPONSE + "30 30",
            CURRENCY + "0978", "0800" + maps(1, 70) + "0301", all()};
        for (String message : whole) {
            int bytes = message.replace(" ", "").length() / 2;
            sound(message);
            found(message + "00", BEHIND, bytes);
            found(message + "30 31", BEHIND, bytes);
            found(message + "FF".repeat(5), BEHIND, bytes);
        }
    }

    /** "THE TAPE has bytes, 400 at most." */
    private static void behindUpToFourHundred() {
        for (int bytes : new int[] {11, 399, 400}) {
            CardMessages x = Due.taped("0800" + NO_MAP + "00".repeat(bytes - 10));
            Due.due("fault(0) of " + bytes, x.fault(0), BEHIND);
            Due.due("fault(1) of " + bytes, x.fault(1), 10);
            Due.due("read() of " + bytes, x.read(), false);
            Due.due("trim(0) of " + bytes, x.trim(0), bytes);
            Due.due("trim of what is behind", x.trim(bytes - 10), 10);
            Due.due("fault(0) then", x.fault(0), 0);
        }
    }

    /** "each looked for wholly before its bytes are asked" */
    private static void wholeBeforeItsBytes() {
        found("FF", SHORT, 1);
        found("FF FF", DIGIT, 0);
        found("0F", SHORT, 1);
        found("0800" + "FF".repeat(7), SHORT, 9);
        found(CARD + "FF", DIGIT, 10);
        found(CARD + "04 FF", SHORT, 12);
        found(CARD + "04 FF FF", DIGIT, 11);
        found(CARD + "03 FF", SHORT, 12);
        found(CARD + "03 FF FF", DIGIT, 11);
        found(NOTE + "FF", SHORT, 11);
        found(NOTE + "FF FF", DIGIT, 10);
        found(NOTE + "00 02 FF", SHORT, 13);
        found(NOTE + "00 02 FF FF", LETTER, 12);
        found(RESPONSE + "FF", SHORT, 11);
        found(RESPONSE + "FF FF", LETTER, 10);
        found(CURRENCY + "FF", SHORT, 11);
        found(CURRENCY + "FF FF", DIGIT, 10);
        // A part that is there is asked before the next one is looked for.
        found("0102", TYPE, 0);
        found("010A", DIGIT, 1);
        found(CARD + "00", LENGTH, 10);
        found(CARD + "20", LENGTH, 10);
        found(NOTE + "00 41", LENGTH, 10);
        found(NOTE + "00 00", LENGTH, 10);
        found("0800" + firstMap(8), MAP, 2);
    }

    /** "Its FAULT is the first that is met" */
    private static void firstThatIsMet() {
        found("0F 02" + "FF".repeat(16), DIGIT, 0);
        found("01 02" + "FF".repeat(16), TYPE, 0);
        found("A1 A2" + NO_MAP, DIGIT, 0);
        found("01 2A" + NO_MAP, DIGIT, 1);
        found("0800" + firstMap(2, 5) + "20", MAP, 2);
        found("0800" + firstMap(2, 3) + "20 FF", LENGTH, 10);
        found("0800" + firstMap(2, 3) + "2A FF", DIGIT, 10);
        found("0800" + firstMap(2, 3) + "01 0A 00 00 0A", DIGIT, 11);
        found("0800" + firstMap(2, 3) + "01 05 00 0A 0A", DIGIT, 13);
        found("0800" + firstMap(2, 3) + "01 05 00 0A", SHORT, 14);
        found("0800" + firstMap(2, 32) + "01 05 12", LENGTH, 12);
        found("0800" + firstMap(38, 39) + "30 30 30 30 30 30 20 20", LETTER, 16);
        found("0800" + firstMap(38, 39) + "30 30 30 20 30 30 20", LETTER, 13);
        found("0800" + firstMap(39, 49) + "30 20 F0 00", LETTER, 11);
        found("0800" + firstMap(39, 49) + "30 30 F0 00", DIGIT, 12);
        found("0800" + firstMap(39, 49) + "30 30 00 00 00", BEHIND, 14);
        found("0800" + firstMap(39, 54) + "30 30 00 41 20", LENGTH, 12);
        found("0800" + firstMap(3) + "00 0A 00 FF FF", DIGIT, 11);
        found("0800" + firstMap(39) + "30 20 FF", LETTER, 11);
    }

    private static void faultChangesNothing() {
        for (int state : new int[] {States.EMPTY, States.FULL, States.FAULTY, States.COMPOSED}) {
            CardMessages x = States.made(state);
            x.fault(0);
            x.fault(1);
            Due.due("all behind fault, state " + state, States.whole(x), States.whole(States.made(state)));
        }
    }

    // ---- 17, read

    /** "false, changing nothing, if that has a fault" */
    private static void readOfEachKindOfFault() {
        String front = upTo(PARTS.length - 1);
        String[] tapes = {all().substring(0, all().length() - 2), front + "21098765432A", "0431" + all().substring(4),
            "0430FF" + all().substring(6), all().substring(0, 36) + "20" + all().substring(38),
            all().replace("5A5A5A5A", "5A5A5A5B"), all() + "00"};
        for (int kind = SHORT; kind <= BEHIND; kind++) {
            CardMessages x = Due.taped(tapes[kind - 1]);
            Due.due("the kind of fault", x.fault(0), kind);
            x.message(17);
            x.digits(2, 5);
            x.digits(95, 6);
            Due.due("read() of kind " + kind, x.read(), false);
            Due.due("the draft behind it", Due.draft(x), "17/2 2=5 95=000000000006");
            Due.due("the tape behind it", Due.hex(x), tapes[kind - 1]);
        }
        CardMessages x = States.made(States.FULL);
        x.trim(13);
        Due.due("read() of an empty tape", x.read(), false);
        Due.due("the draft behind it", Due.draft(x), Due.draft(States.made(States.FULL)));
    }

    /** "The draft becomes what is on the tape: true" */
    private static void readBecomesTheTape() {
        CardMessages x = Due.taped(all());
        Due.due("read() of all", x.read(), true);
        Due.due("the draft", Due.draft(x), PARTS_DRAFT);
        CardMessages y = States.made(States.FULL);
        Due.due("read() over all fields", y.read(), true);
        Due.due("the draft", Due.draft(y), "100/1 3=987654");
        CardMessages z = States.made(States.FULL);
        Due.load(z, "0810" + NO_MAP);
        Due.due("read() of no fields", z.read(), true);
        Due.due("the draft", Due.draft(z), "810/0");
        Due.due("read() again", z.read(), true);
        Due.due("the draft", Due.draft(z), "810/0");
    }

    private static void readOfLeastAndMost() {
        becomes(CARD + "01 00", "2=0");
        becomes(CARD + "02 00", "2=00");
        becomes(CARD + "19 00 00 00 00 00 00 00 00 00 00", "2=" + "0".repeat(19));
        becomes(CARD + "19 09 99 99 99 99 99 99 99 99 99", "2=" + "9".repeat(19));
        becomes(ACQUIRER + "01 09", "32=9");
        becomes(ACQUIRER + "11 09 99 99 99 99 99", "32=" + "9".repeat(11));
        becomes(NOTE + "00 01 30", "54=0");
        becomes(NOTE + "00 40" + "5A".repeat(40), "54=" + "Z".repeat(40));
        becomes(RESPONSE + "39 41", "39=9A");
        becomes(CURRENCY + "0000", "49=000");
        becomes(CURRENCY + "0999", "49=999");
        becomes("0800" + maps(1, 90) + "99".repeat(21), "90=" + "9".repeat(42));
        CardMessages x = Due.taped(CARD + "19 09 99 99 99 99 99 99 99 99 99");
        x.read();
        Due.due("number(2) of 19 nines", x.number(2), 999999999999999999L);
        CardMessages y = Due.taped("0800" + maps(1, 90) + "99".repeat(21));
        y.read();
        Due.due("number(90) of 42 nines", y.number(90), 999999999999999999L);
    }

    private static void becomes(String tape, String field) {
        CardMessages x = Due.taped(tape);
        Due.due(tape + ": read()", x.read(), true);
        Due.due(tape + ": the draft", Due.draft(x), "800/1 " + field);
        x.trim(x.trim(0));
        x.compose();
        Due.due(tape + ": composed again", Due.hex(x), tape.replace(" ", ""));
    }

    private static void readLeavesTheTape() {
        CardMessages x = Due.taped(all());
        x.read();
        Due.due("the tape behind read()", Due.hex(x), all());
        x.spoil(0, 255);
        x.trim(100);
        Due.due("the draft behind changes of the tape", x.type() + "/" + x.fields() + " " + Due.marks(x, 90),
                "430/16 123456789012345678901234567890123456789012");
    }
}
