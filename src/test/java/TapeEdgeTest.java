/**
 * Promises 12 to 15: each sentence that names a boundary case, on both sides of it. The comment
 * ahead of a test is the sentence.
 */
public final class TapeEdgeTest {
    private static final int LEAST = Integer.MIN_VALUE;
    private static final int MOST = Integer.MAX_VALUE;
    private static final int CALLS = 512;
    private static final String NO_MAP = "0000000000000000";

    private TapeEdgeTest() {
    }

    public static void main(String[] args) {
        composeOfTypes();
        composeOfOneMapOrTwo();
        composeOfOddAndEvenDigits();
        composeOfCounts();
        composeOfLettersAtTheirEdges();
        composeOfNoneAndAll();
        composeOverOtherTapes();
        composeLeavesTheDraft();
        feedHighestFirst();
        feedUpToFourHundred();
        feedBehindAnyLength();
        feedLeavesTheDraft();
        trimFromNoneToAll();
        trimRefused();
        trimmedBytesAreGone();
        spoilFirstAndLast();
        spoilBits();
        spoilOfNoSuchByte();
        spoilOfWrongBits();
        lastOfManyCalls();
        Due.end("TapeEdgeTest");
    }

    // ---- 12, compose

    private static void composed(String what, CardMessages x, String want) {
        String bytes = want.replace(" ", "");
        Due.due(what + ", compose()", x.compose(), bytes.length() / 2);
        Due.due(what + ", the tape", Due.hex(x), bytes);
    }

    private static CardMessages withDigits(int field, long v) {
        CardMessages x = new CardMessages();
        x.digits(field, v);
        return x;
    }

    private static CardMessages withLetters(int field, long v, int n) {
        CardMessages x = new CardMessages();
        x.letters(field, v, n);
        return x;
    }

    /** "TYPE, four digits": any type of a draft can be written, a wrong one too. */
    private static void composeOfTypes() {
        for (int type : new int[] {0, 9, 10, 99, 100, 999, 1000, 9999}) {
            CardMessages x = new CardMessages();
            x.message(type);
            composed("type " + type, x, Fields.padded(type, 4) + NO_MAP);
        }
    }

    /** "a second one, if the first one's highest bit is 1": 54 is the last of the first, 70 is of the second. */
    private static void composeOfOneMapOrTwo() {
        composed("2 alone", withDigits(2, 5), "0800 4000000000000000 01 05");
        composed("54 alone", withLetters(54, 0, 1), "0800 0000000000000400 0001 30");
        composed("70 alone", withDigits(70, 5), "0800 8000000000000000 0400000000000000 0005");
        composed("95 alone", withDigits(95, 5), "0800 8000000000000000 0000000200000000 000000000005");
        CardMessages x = withDigits(70, 5);
        x.letters(54, 0, 1);
        composed("54 and 70", x, "0800 8000000000000400 0400000000000000 0001 30 0005");
        x.omit(54);
        composed("70 without 54", x, "0800 8000000000000000 0400000000000000 0005");
        x.letters(54, 0, 1);
        x.omit(70);
        composed("54 without 70", x, "0800 0000000000000400 0001 30");
        x.omit(54);
        composed("neither", x, "0800" + NO_MAP);
    }

    /** "DIGITS lie two in a byte .. behind a 0 if they are odd in number." */
    private static void composeOfOddAndEvenDigits() {
        composed("1 digit", withDigits(2, 9), "0800 4000000000000000 01 09");
        composed("2 digits", withDigits(2, 98), "0800 4000000000000000 02 98");
        composed("3 digits", withDigits(2, 987), "0800 4000000000000000 03 0987");
        composed("18 digits", withDigits(2, 987654321012345678L), "0800 4000000000000000 18 987654321012345678");
        composed("19 digits", withDigits(2, Long.MAX_VALUE), "0800 4000000000000000 19 09223372036854775807");
        composed("10 digits", withDigits(32, 9876543210L), "0800 0000000100000000 10 9876543210");
        composed("11 digits", withDigits(32, 99999999999L), "0800 0000000100000000 11 099999999999");
        composed("3 digits always", withDigits(49, 999), "0800 0000000000008000 0999");
        composed("3 digits of 0", withDigits(49, 0), "0800 0000000000008000 0000");
        composed("6 digits always", withDigits(3, 999999), "0800 2000000000000000 999999");
    }

    /** "how many digits, two digits in a byte (1 .. 19)", "(1 .. 11)", "three digits in two bytes (1 .. 40)" */
    private static void composeOfCounts() {
        for (int count = 1; count <= 18; count++) {
            String nines = "9".repeat(count);
            String written = Fields.padded(count, 2) + (count % 2 == 0 ? nines : "0" + nines);
            composed("card of " + count, withDigits(2, Fields.power(count) - 1), "0800 4000000000000000" + written);
            if (count <= 11) {
                composed("acquirer of " + count, withDigits(32, Fields.power(count) - 1),
                        "0800 0000000100000000" + written);
            }
        }
        composed("card of 0", withDigits(2, 0), "0800 4000000000000000 01 00");
        composed("acquirer of 0", withDigits(32, 0), "0800 0000000100000000 01 00");
        for (int n = 1; n <= 40; n++) {
            composed("note of " + n, withLetters(54, -1, n),
                    "0800 0000000000000400" + Fields.padded(n, 4) + "56".repeat(n));
        }
    }

    /** "LETTERS are the bytes of 0 .. 9 and A .. Z, one each." */
    private static void composeOfLettersAtTheirEdges() {
        composed("0 and 9", withLetters(39, 9 << 5, 0), "0800 0000000002000000 30 39");
        composed("A and V", withLetters(39, 31 << 5 | 10, 0), "0800 0000000002000000 41 56");
        CardMessages x = Due.taped("0800 0000000002000000 5A 30");
        x.read();
        x.feed(0);
        composed("Z and 0", x, "0800 0000000002000000 5A 30");
    }

    /** "The tape becomes the draft, as a message: how many bytes it has." */
    private static void composeOfNoneAndAll() {
        composed("no fields", new CardMessages(), "0800" + NO_MAP);
        CardMessages x = new CardMessages();
        x.message(9999);
        StringBuilder want = new StringBuilder("9999 F02000010E808400 0440044200000000");
        for (int field : Due.FIELDS) {
            int most = Fields.most(field);
            if (Fields.hasLetters(field)) {
                x.letters(field, -1, field == 54 ? 40 : 0);
                want.append(field == 54 ? "0040" : "").append("56".repeat(most));
            } else {
                long v = most > 18 ? Long.MAX_VALUE : Fields.power(most) - 1;
                x.digits(field, v);
                want.append(Fields.isCounted(field) ? Fields.padded(most, 2) : "");
                want.append(most % 2 == 0 ? "" : "0").append(Fields.padded(v, most));
            }
        }
        composed("all fields at their most", x, want.toString());
    }

    /** The tape becomes the draft, whatever it was before. */
    private static void composeOverOtherTapes() {
        for (int words : new int[] {0, 1, 2, 3, 100}) {
            CardMessages x = withDigits(49, 978);
            for (int i = 0; i < words; i++) {
                x.feed(-1);
            }
            composed("over " + 4 * words + " bytes", x, "0800 0000000000008000 0978");
            composed("over the same", x, "0800 0000000000008000 0978");
        }
    }

    /** "(The draft stays.)" */
    private static void composeLeavesTheDraft() {
        for (int state : new int[] {States.EMPTY, States.FULL, States.FAULTY, States.COMPOSED}) {
            CardMessages x = States.made(state);
            x.compose();
            Due.due("the draft behind compose(), state " + state, Due.draft(x), Due.draft(States.made(state)));
        }
    }

    // ---- 13, feed

    /** "Four bytes come behind the tape, the highest first" */
    private static void feedHighestFirst() {
        CardMessages x = new CardMessages();
        Due.due("feed onto none", x.feed(0x01020304), 4);
        Due.due("feed of 0", x.feed(0), 8);
        Due.due("feed of -1", x.feed(-1), 12);
        Due.due("feed of the least", x.feed(LEAST), 16);
        Due.due("feed of the most", x.feed(MOST), 20);
        Due.due("feed of FE", x.feed(0x80FE7F81), 24);
        Due.due("the fed tape", Due.hex(x),
                "01020304" + "00000000" + "FFFFFFFF" + "80000000" + "7FFFFFFF" + "80FE7F81");
    }

    private static CardMessages fed(int bytes) {
        CardMessages x = new CardMessages();
        for (int i = 0; i < bytes; i += 4) {
            x.feed(i << 16 | i + 1);
        }
        x.trim(x.trim(0) - bytes);
        return x;
    }

    /** "Illegal state: there would be more than 400." */
    private static void feedUpToFourHundred() {
        for (int bytes = 392; bytes <= 396; bytes++) {
            CardMessages x = fed(bytes);
            Due.due("feed behind " + bytes, x.feed(0x0A0B0C0D), bytes + 4);
            Due.due("its first byte", x.spoil(bytes, 0), 0x0A);
            Due.due("its last byte", x.spoil(bytes + 3, 0), 0x0D);
        }
        for (int bytes = 397; bytes <= 400; bytes++) {
            for (int v : new int[] {0, 1, -1, LEAST}) {
                CardMessages x = fed(bytes);
                Due.throwing("feed behind " + bytes, () -> x.feed(v), IllegalStateException.class);
                Due.due("feed refused, the tape", Due.hex(x), Due.hex(fed(bytes)));
                CardMessages y = fed(bytes);
                y.message(7);
                Due.throwing("feed behind " + bytes, () -> y.feed(v), IllegalStateException.class);
                Due.due("feed refused, the draft", Due.draft(y), "7/0");
                Due.due("feed refused, what goes then", y.trim(bytes - 396), 396);
                Due.due("feed behind 396", y.feed(v), 400);
                Due.throwing("feed behind 400", () -> y.feed(v), IllegalStateException.class);
            }
        }
    }

    private static void feedBehindAnyLength() {
        for (int bytes = 0; bytes <= 9; bytes++) {
            CardMessages x = fed(bytes);
            String before = Due.hex(x);
            Due.due("feed behind " + bytes, x.feed(0xF1F2F3F4), bytes + 4);
            Due.due("the tape then", Due.hex(x), before + "F1F2F3F4");
        }
        CardMessages x = withDigits(2, 5);
        x.compose();
        Due.due("feed behind a message", x.feed(7), 16);
        Due.due("the tape then", Due.hex(x), "080040000000000000000105" + "00000007");
    }

    private static void feedLeavesTheDraft() {
        CardMessages x = States.made(States.FULL);
        x.feed(-1);
        Due.due("the draft behind feed", Due.draft(x), Due.draft(States.made(States.FULL)));
    }

    // ---- 14, trim

    /** "The last n bytes of the tape go: how many it has." */
    private static void trimFromNoneToAll() {
        for (int bytes : new int[] {0, 1, 4, 5, 399, 400}) {
            CardMessages x = fed(bytes);
            Due.due("trim(0) of " + bytes, x.trim(0), bytes);
            Due.due("trim of all " + bytes, x.trim(bytes), 0);
            Due.due("trim(0) behind it", x.trim(0), 0);
            if (bytes > 0) {
                CardMessages y = fed(bytes);
                Due.due("trim(1) of " + bytes, y.trim(1), bytes - 1);
                CardMessages z = fed(bytes);
                Due.due("trim of all but one of " + bytes, z.trim(bytes - 1), 1);
                Due.due("the byte that is left", z.spoil(0, 0), 0);
            }
        }
    }

    /** "Illegal argument: n is below 0, or more than there are." */
    private static void trimRefused() {
        for (int n : new int[] {LEAST, -400, -1, 401, MOST}) {
            States.refused("trim(" + n + ")", x -> x.trim(n));
        }
        for (int bytes : new int[] {0, 1, 2, 7, 13, 100}) {
            for (int n : new int[] {-1, bytes + 1, bytes + 2, LEAST, MOST, LEAST + bytes}) {
                States.refused("trim(" + n + ") of " + bytes, () -> fed(bytes), x -> x.trim(n));
            }
        }
        CardMessages full = fed(400);
        Due.refused("trim(401) of 400", () -> full.trim(401));
        Due.due("trim(400) of 400", full.trim(400), 0);
    }

    private static void trimmedBytesAreGone() {
        CardMessages x = fed(8);
        x.trim(3);
        Due.due("the tape behind trim(3)", Due.hex(x), "0000000100");
        Due.refused("spoil of a byte that went", () -> x.spoil(5, 0));
        Due.due("feed behind trim(3)", x.feed(0x0A0B0C0D), 9);
        Due.due("the tape then", Due.hex(x), "0000000100" + "0A0B0C0D");
        CardMessages y = States.made(States.FULL);
        y.trim(4);
        Due.due("the draft behind trim", Due.draft(y), Due.draft(States.made(States.FULL)));
    }

    // ---- 15, spoil

    /** "Byte i of the tape becomes itself ^ x: what it is then." */
    private static void spoilFirstAndLast() {
        for (int bytes : new int[] {1, 2, 13, 399, 400}) {
            CardMessages x = fed(bytes);
            int first = x.spoil(0, 0);
            int last = x.spoil(bytes - 1, 0);
            Due.due("spoil of the last of " + bytes, x.spoil(bytes - 1, 0x55), last ^ 0x55);
            Due.due("spoil of it again", x.spoil(bytes - 1, 0x55), last);
            Due.due("spoil of the first of " + bytes, x.spoil(0, 0xAA), first ^ 0xAA);
            Due.due("spoil of it again", x.spoil(0, 0xAA), first);
        }
    }

    private static void spoilBits() {
        CardMessages x = Due.taped("00 FF 7F 80");
        Due.due("00 ^ 0", x.spoil(0, 0), 0);
        Due.due("00 ^ 1", x.spoil(0, 1), 1);
        Due.due("01 ^ 254", x.spoil(0, 254), 255);
        Due.due("FF ^ 0", x.spoil(1, 0), 255);
        Due.due("FF ^ 255", x.spoil(1, 255), 0);
        Due.due("7F ^ 128", x.spoil(2, 128), 255);
        Due.due("80 ^ 127", x.spoil(3, 127), 255);
        Due.due("the tape then", Due.hex(x), "FF00FFFF");
        CardMessages y = States.made(States.FULL);
        y.spoil(12, 1);
        Due.due("the draft behind spoil", Due.draft(y), Due.draft(States.made(States.FULL)));
        Due.due("the tape behind spoil", Due.hex(y), "01002000000000000000987655");
    }

    /** "Illegal argument: there is no such byte" */
    private static void spoilOfNoSuchByte() {
        for (int i : new int[] {LEAST, -1, 400, 401, MOST}) {
            States.refused("spoil(" + i + ", 1)", x -> x.spoil(i, 1));
        }
        for (int bytes : new int[] {0, 1, 2, 13, 99}) {
            for (int i : new int[] {-1, bytes, bytes + 1, LEAST + bytes}) {
                States.refused("spoil(" + i + ", 1) of " + bytes, () -> fed(bytes), x -> x.spoil(i, 1));
            }
        }
        CardMessages full = fed(400);
        Due.refused("spoil(400, 0) of 400", () -> full.spoil(400, 0));
        Due.refused("spoil(-1, 0) of 400", () -> full.spoil(-1, 0));
        Due.due("spoil(399, 0) of 400", full.spoil(399, 0), 397 & 255);
    }

    /** ".. or x is not 0 .. 255." */
    private static void spoilOfWrongBits() {
        for (int bits : new int[] {LEAST, -255, -1, 256, 257, 511, 65536, MOST}) {
            States.refused("spoil(0, " + bits + ")", x -> x.spoil(0, bits));
            States.refused("spoil(12, " + bits + ")", States.FULL, x -> x.spoil(12, bits));
        }
        States.refused("spoil(-1, 256)", x -> x.spoil(-1, 256));
    }

    // ---- all calls

    /** "An object is used for at most 512 calls after it has been made": the last is as good as the first. */
    private static void lastOfManyCalls() {
        CardMessages x = new CardMessages();
        for (int i = 0; i < CALLS - 2; i++) {
            Due.refused("message(-1)", () -> x.message(-1));
        }
        x.digits(2, 5);
        Due.due("compose() behind 511 calls", x.compose(), 12);
        CardMessages y = new CardMessages();
        for (int i = 0; i < CALLS / 4 - 1; i++) {
            y.letters(54, i, 1 + i % 40);
            y.compose();
            y.fault(0);
            y.read();
        }
        y.letters(54, 31, 2);
        Due.due("compose() behind 509 calls", y.compose(), 14);
        Due.due("read() behind 510 calls", y.read(), true);
        Due.due("at(54, 0) behind 511 calls", y.at(54, 0), 'V');
    }
}
