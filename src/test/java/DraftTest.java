/** Promises 1 to 11: a new object, and the draft. */
public final class DraftTest {
    private DraftTest() {
    }

    public static void main(String[] args) {
        newObject();
        message();
        digitsOfEachField();
        digitsRefused();
        lettersOfEachField();
        lettersRefused();
        original();
        originalOverAll();
        fieldsAtTheirMost();
        omit();
        sizeAndAt();
        number();
        fields();
        unknownFields();
        Due.end("DraftTest");
    }

    private static void newObject() {
        CardMessages x = new CardMessages();
        Due.due("NONE", CardMessages.NONE, -1);
        Due.due("new: draft", Due.draft(x), "800/0");
        Due.due("new: tape", x.trim(0), 0);
        Due.due("new: fault(0)", x.fault(0), 1);
        Due.due("new: fault(1)", x.fault(1), 0);
        CardMessages other = new CardMessages();
        other.message(100);
        other.digits(3, 1);
        other.compose();
        Due.due("two objects share no draft", Due.draft(x), "800/0");
        Due.due("two objects share no tape", x.trim(0), 0);
    }

    private static void message() {
        CardMessages x = new CardMessages();
        for (int type : new int[] {0, 1, 100, 111, 9999}) {
            x.digits(3, 5);
            x.letters(54, 5, 40);
            x.digits(90, 5);
            x.message(type);
            Due.due("message(" + type + ")", Due.draft(x), type + "/0");
        }
        x.digits(3, 5);
        for (int type : new int[] {-1, 10000, Integer.MIN_VALUE, Integer.MAX_VALUE}) {
            Due.refused("message(" + type + ")", () -> x.message(type));
        }
        Due.due("message refused changes nothing", Due.draft(x), "9999/1 3=000005");
    }

    private static void digitsOfEachField() {
        for (int field : Fields.OF_DIGITS) {
            int most = Fields.most(field);
            for (long v : valuesUpTo(most)) {
                CardMessages x = new CardMessages();
                x.digits(field, v);
                String want = Fields.isCounted(field) ? Long.toString(v) : Fields.padded(v, most);
                Due.due("digits(" + field + ", " + v + ")", Due.draft(x), "800/1 " + field + "=" + want);
            }
        }
        CardMessages x = new CardMessages();
        x.digits(2, 1234567890123456789L);
        x.digits(2, 12);
        Due.due("digits put anew", Due.draft(x), "800/1 2=12");
    }

    private static long[] valuesUpTo(int digits) {
        long most = digits >= 19 ? Long.MAX_VALUE : Fields.power(digits) - 1;
        return new long[] {0, 1, 9, 10, 99, 100, 123, most / 10, most / 10 + 1, most - 1, most};
    }

    private static void digitsRefused() {
        CardMessages x = new CardMessages();
        x.digits(2, 77);
        for (int field : Fields.OF_DIGITS) {
            Due.refused("digits(" + field + ", -1)", () -> x.digits(field, -1));
            Due.refused("digits(" + field + ", least)", () -> x.digits(field, Long.MIN_VALUE));
            if (Fields.most(field) < 19) {
                long over = Fields.power(Fields.most(field));
                Due.refused("digits(" + field + ", " + over + ")", () -> x.digits(field, over));
                Due.refused("digits(" + field + ", most)", () -> x.digits(field, Long.MAX_VALUE));
            }
        }
        for (int field : Fields.OF_LETTERS) {
            Due.refused("digits(" + field + ", 1)", () -> x.digits(field, 1));
        }
        Due.due("digits refused changes nothing", Due.draft(x), "800/1 2=77");
    }

    private static void lettersOfEachField() {
        String all = "0123456789ABCDEFGHIJKLMNOPQRSTUV";
        // Numbers 0 .. 11, 12 .. 23 and 20 .. 31 in the letters' order, and the highest four bits free.
        for (int from : new int[] {0, 12, 20}) {
            long v = 0;
            for (int k = 11; k >= 0; k--) {
                v = v << 5 | from + k;
            }
            for (long high : new long[] {0, 1L << 60, -1L << 60}) {
                lettersOf(v | high, all.substring(from, from + 12));
            }
        }
        lettersOf(0, "000000000000");
        lettersOf(-1, "VVVVVVVVVVVV");
        lettersOf(Long.MIN_VALUE, "000000000000");
        lettersOf(Long.MAX_VALUE, "VVVVVVVVVVVV");
    }

    private static void lettersOf(long v, String twelve) {
        String many = twelve.repeat(4);
        for (int field : Fields.OF_LETTERS) {
            int[] counts = field == 54 ? new int[] {1, 2, 11, 12, 13, 24, 25, 39, 40} : new int[] {0};
            for (int n : counts) {
                CardMessages x = new CardMessages();
                x.letters(field, v, n);
                String want = many.substring(0, field == 54 ? n : Fields.most(field));
                Due.due("letters(" + field + ", " + v + ", " + n + ")",
                        Due.draft(x), "800/1 " + field + "=" + want);
            }
        }
    }

    private static void lettersRefused() {
        CardMessages x = new CardMessages();
        x.letters(54, 1, 2);
        for (int field : new int[] {37, 38, 39, 41}) {
            for (int n : new int[] {-1, 1, Fields.most(field), Integer.MIN_VALUE, Integer.MAX_VALUE}) {
                Due.refused("letters(" + field + ", 1, " + n + ")", () -> x.letters(field, 1, n));
            }
        }
        for (int n : new int[] {-1, 0, 41, Integer.MIN_VALUE, Integer.MAX_VALUE}) {
            Due.refused("letters(54, 1, " + n + ")", () -> x.letters(54, 1, n));
        }
        for (int field : Fields.OF_DIGITS) {
            Due.refused("letters(" + field + ", 1, 0)", () -> x.letters(field, 1, 0));
            Due.refused("letters(" + field + ", 1, 1)", () -> x.letters(field, 1, 1));
        }
        Due.due("letters refused changes nothing", Due.draft(x), "800/1 54=10");
    }

    private static void original() {
        CardMessages x = new CardMessages();
        x.digits(90, Long.MAX_VALUE);
        Due.due("digits(90)", Due.marks(x, 90), "0".repeat(23) + "9223372036854775807");
        x.original(0, 0, 0);
        Due.due("original of zeros", Due.draft(x), "800/1 90=" + "0".repeat(42));
        x.original(9999, 999999, 99999);
        String most = "9999" + "999999" + "0000000000" + "00000099999" + "00000000000";
        Due.due("original of the most", Due.marks(x, 90), most);
        x.original(123, 4567, 89);
        String small = "0123" + "004567" + "0000000000" + "00000000089" + "00000000000";
        Due.due("original", Due.marks(x, 90), small);
        int[][] wrong = {{-1, 0, 0}, {10000, 0, 0}, {0, -1, 0}, {0, 1000000, 0}, {0, 0, -1}, {0, 0, 100000},
            {Integer.MIN_VALUE, 0, 0}, {0, Integer.MAX_VALUE, 0}, {0, 0, Integer.MIN_VALUE}};
        for (int[] parts : wrong) {
            Due.refused("original(" + parts[0] + ", " + parts[1] + ", " + parts[2] + ")",
                    () -> x.original(parts[0], parts[1], parts[2]));
        }
        Due.due("original refused changes nothing", Due.draft(x), "800/1 90=" + small);
    }

    private static void originalOverAll() {
        CardMessages x = Due.taped("0800 80 00 00 00 00 00 00 00 00 00 00 42 00 00 00 00" + "99".repeat(27));
        Due.due("read() of nines", x.read(), true);
        x.original(1, 2, 3);
        Due.due("original over nines", Due.draft(x), "800/2 90=0001" + "000002" + "0000000000"
                + "00000000003" + "00000000000" + " 95=999999999999");
    }

    /** No field may reach into another, in whatever order they are put. */
    private static void fieldsAtTheirMost() {
        for (int turn = 0; turn < Due.FIELDS.length; turn++) {
            CardMessages x = new CardMessages();
            StringBuilder want = new StringBuilder("800/16");
            for (int i = 0; i < Due.FIELDS.length; i++) {
                putMost(x, Due.FIELDS[(turn + i) % Due.FIELDS.length]);
                want.append(' ').append(Due.FIELDS[i]).append('=').append(mostOf(Due.FIELDS[i]));
            }
            Due.due("all fields at their most, turn " + turn, Due.draft(x), want.toString());
        }
    }

    private static void putMost(CardMessages x, int field) {
        if (Fields.hasLetters(field)) {
            x.letters(field, -1, field == 54 ? 40 : 0);
        } else {
            x.digits(field, Long.parseLong(mostOf(field)));
        }
    }

    private static String mostOf(int field) {
        if (Fields.hasLetters(field)) {
            return "V".repeat(Fields.most(field));
        }
        int most = Fields.most(field);
        return Fields.padded(most >= 19 ? Long.MAX_VALUE : Fields.power(most) - 1, most);
    }

    private static void omit() {
        for (int field : Due.FIELDS) {
            CardMessages x = full();
            String before = Due.marks(x, field);
            Due.due("omit(" + field + ")", x.omit(field), true);
            Due.due("fields() behind it", x.fields(), 15);
            Due.due("size behind it", x.size(field), CardMessages.NONE);
            Due.due("omit(" + field + ") again", x.omit(field), false);
            Due.due("fields() behind both", x.fields(), 15);
            Due.due("type() behind both", x.type(), 230);
            Due.due("it had digits or letters", before.isEmpty(), false);
        }
    }

    /** A draft with all fields. */
    private static CardMessages full() {
        CardMessages x = new CardMessages();
        x.message(230);
        for (int field : Fields.OF_DIGITS) {
            x.digits(field, 100 + field);
        }
        for (int field : Fields.OF_LETTERS) {
            x.letters(field, field, field == 54 ? 7 : 0);
        }
        return x;
    }

    private static void sizeAndAt() {
        CardMessages x = full();
        int[] sizes = {3, 6, 12, 6, 3, 12, 6, 2, 8, 3, 7, 3, 10, 16, 42, 12};
        for (int i = 0; i < Due.FIELDS.length; i++) {
            int field = Due.FIELDS[i];
            int size = sizes[i];
            Due.due("size(" + field + ")", x.size(field), size);
            for (int k : new int[] {-1, size, size + 1, Integer.MIN_VALUE, Integer.MAX_VALUE}) {
                Due.refused("at(" + field + ", " + k + ")", () -> x.at(field, k));
            }
        }
        Due.due("at(2, 0)", x.at(2, 0), 1);
        Due.due("at(2, 2)", x.at(2, 2), 2);
        Due.due("at(3, 0)", x.at(3, 0), 0);
        Due.due("at(3, 5)", x.at(3, 5), 3);
        Due.due("at(37, 0)", x.at(37, 0), '5');
        Due.due("at(37, 11)", x.at(37, 11), '0');
        Due.due("at(54, 0)", x.at(54, 0), 'M');
        Due.due("at(54, 6)", x.at(54, 6), '0');
        CardMessages none = new CardMessages();
        for (int field : Due.FIELDS) {
            Due.due("size(" + field + ") without it", none.size(field), CardMessages.NONE);
            Due.refused("at(" + field + ", 0) without it", () -> none.at(field, 0));
        }
    }

    private static void number() {
        CardMessages x = full();
        for (int field : Fields.OF_DIGITS) {
            Due.due("number(" + field + ")", x.number(field), 100 + field);
            x.omit(field);
            Due.due("number(" + field + ") without it", x.number(field), CardMessages.NONE);
        }
        for (int field : Fields.OF_LETTERS) {
            Due.refused("number(" + field + ")", () -> x.number(field));
            x.omit(field);
            Due.refused("number(" + field + ") without it", () -> x.number(field));
        }
        x.digits(2, 999999999999999999L);
        Due.due("number(2), 18 digits", x.number(2), 999999999999999999L);
        x.digits(2, 1234567890123456789L);
        Due.due("number(2), 19 digits", x.number(2), 234567890123456789L);
        x.digits(2, 1000000000000000000L);
        Due.due("number(2), the highest digit goes", x.number(2), 0);
        x.digits(90, Long.MAX_VALUE);
        Due.due("number(90)", x.number(90), 223372036854775807L);
        x.digits(32, 0);
        Due.due("number(32)", x.number(32), 0);
        x.digits(86, 9999999999999999L);
        Due.due("number(86)", x.number(86), 9999999999999999L);
    }

    private static void fields() {
        CardMessages x = new CardMessages();
        int count = 0;
        for (int field : Fields.OF_DIGITS) {
            x.digits(field, 0);
            x.digits(field, 1);
            count++;
            Due.due("fields() with " + field, x.fields(), count);
        }
        x.original(1, 2, 3);
        Due.due("fields() with 90 put anew", x.fields(), count);
        for (int field : Fields.OF_LETTERS) {
            x.letters(field, 0, field == 54 ? 1 : 0);
            count++;
            Due.due("fields() with " + field, x.fields(), count);
        }
        Due.due("fields() of all", x.fields(), 16);
    }

    private static void unknownFields() {
        for (int field : Fields.unknown()) {
            CardMessages x = full();
            String before = Due.draft(x);
            Due.refused("digits(" + field + ", 1)", () -> x.digits(field, 1));
            Due.refused("letters(" + field + ", 1, 0)", () -> x.letters(field, 1, 0));
            Due.refused("omit(" + field + ")", () -> x.omit(field) ? 1L : 0L);
            Due.refused("size(" + field + ")", () -> x.size(field));
            Due.refused("at(" + field + ", 0)", () -> x.at(field, 0));
            Due.refused("number(" + field + ")", () -> x.number(field));
            Due.due("an unknown field changes nothing", Due.draft(x), before);
        }
    }
}
