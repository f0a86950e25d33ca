/** Promises 12 to 15: compose, feed, trim, spoil. */
public final class TapeTest {
    private TapeTest() {
    }

    public static void main(String[] args) {
        composeOfEachType();
        composeOfEachField();
        composeOfFirstMap();
        composeOfBothMaps();
        composeAnew();
        feed();
        trim();
        spoil();
        Due.end("TapeTest");
    }

    private static void composeOfEachType() {
        for (int type = 0; type <= 9999; type++) {
            CardMessages x = new CardMessages();
            x.message(type);
            x.compose();
            Due.due("compose() of type " + type, Due.hex(x), String.format("%04d", type) + "0".repeat(16));
        }
    }

    private static void composeOfEachField() {
        CardMessages x = new CardMessages();
        Due.due("compose() of a new draft", x.compose(), 10);
        Due.due("its tape", Due.hex(x), "0800" + "0".repeat(16));
        composed(2, 7, "4000000000000000" + "0107");
        composed(2, 12, "4000000000000000" + "0212");
        composed(2, 123, "4000000000000000" + "030123");
        composed(2, Long.MAX_VALUE, "4000000000000000" + "1909223372036854775807");
        composed(3, 123, "2000000000000000" + "000123");
        composed(4, 123456789012L, "1000000000000000" + "123456789012");
        composed(11, 999999, "0020000000000000" + "999999");
        composed(32, 0, "0000000100000000" + "0100");
        composed(32, 1234567890, "0000000100000000" + "101234567890");
        composed(32, 98765432109L, "0000000100000000" + "11098765432109");
        composed(49, 978, "0000000000008000" + "0978");
        composed(70, 301, "8000000000000000" + "0400000000000000" + "0301");
        composed(74, 1234567890, "8000000000000000" + "0040000000000000" + "1234567890");
        composed(86, 12, "8000000000000000" + "0000040000000000" + "0000000000000012");
        composed(90, 12, "8000000000000000" + "0000004000000000" + "0".repeat(40) + "12");
        composed(95, 12, "8000000000000000" + "0000000200000000" + "000000000012");
        // 42 is A and 1 behind it: 10 + 32.
        composedLetters(37, 0, "0000000008000000" + "4131" + "30".repeat(10));
        composedLetters(38, 0, "0000000004000000" + "4131" + "30".repeat(4));
        composedLetters(39, 0, "0000000002000000" + "4131");
        composedLetters(41, 0, "0000000000800000" + "4131" + "30".repeat(6));
        composedLetters(54, 1, "0000000000000400" + "0001" + "41");
        composedLetters(54, 10, "0000000000000400" + "0010" + "4131" + "30".repeat(8));
        composedLetters(54, 40, "0000000000000400" + "0040"
                + ("4131" + "30".repeat(10)).repeat(3) + "41313030");
    }

    private static void composed(int field, long v, String want) {
        CardMessages x = new CardMessages();
        x.digits(field, v);
        composed(x, "digits(" + field + ", " + v + ")", want);
    }

    private static void composedLetters(int field, int n, String want) {
        CardMessages x = new CardMessages();
        x.letters(field, 42, n);
        composed(x, "letters(" + field + ", 42, " + n + ")", want);
    }

    private static void composed(CardMessages x, String calls, String want) {
        String before = Due.draft(x);
        Due.due(calls + ", compose()", x.compose(), 2 + want.length() / 2);
        Due.due(calls + ", its tape", Due.hex(x), "0800" + want);
        Due.due(calls + ", the draft stays", Due.draft(x), before);
    }

    private static void composeOfFirstMap() {
        CardMessages x = new CardMessages();
        x.message(100);
        // Put in another order than they are written in.
        x.letters(54, 42, 3);
        x.digits(49, 978);
        x.letters(41, 42, 0);
        x.letters(39, 0, 0);
        x.digits(32, 12345);
        x.digits(11, 7);
        x.digits(4, 250);
        x.digits(3, 1);
        x.digits(2, 4100000000200000L);
        String want = "0100" + "7020000102808400" + "164100000000200000" + "000001" + "000000000250"
                + "000007" + "05012345" + "3030" + "4131303030303030" + "0978" + "0003413130";
        Due.due("compose()", x.compose(), want.length() / 2);
        Due.due("its tape", Due.hex(x), want);
    }

    private static void composeOfBothMaps() {
        CardMessages x = new CardMessages();
        x.message(9999);
        for (int field : new int[] {2, 3, 4, 11, 32, 49, 70, 74, 86, 95}) {
            x.digits(field, 1);
        }
        x.original(100, 123456, 99999);
        for (int field : new int[] {37, 38, 39, 41, 54}) {
            x.letters(field, 0, field == 54 ? 2 : 0);
        }
        String want = "9999" + "F02000010E808400" + "0440044200000000" + "0101" + "000001" + "000000000001"
                + "000001" + "0101" + "30".repeat(28) + "0001" + "00023030" + "0001" + "0000000001"
                + "0000000000000001" + "0100" + "123456" + "0000000000" + "00000099999" + "00000000000"
                + "000000000001";
        Due.due("compose() of all", x.compose(), want.length() / 2);
        Due.due("its tape", Due.hex(x), want);
    }

    private static void composeAnew() {
        CardMessages x = new CardMessages();
        x.digits(70, 1);
        Due.due("compose() with 70", x.compose(), 20);
        x.omit(70);
        Due.due("compose() without it", x.compose(), 10);
        Due.due("its tape", Due.hex(x), "0800" + "0".repeat(16));
        Due.due("compose() again", x.compose(), 10);
        x.feed(-1);
        x.spoil(0, 255);
        x.message(1);
        Due.due("compose() over other bytes", x.compose(), 10);
        Due.due("its tape", Due.hex(x), "0001" + "0".repeat(16));
        x.trim(10);
        Due.due("compose() onto an empty tape", x.compose(), 10);
    }

    private static void feed() {
        CardMessages x = new CardMessages();
        Due.due("feed", x.feed(0x01020384), 4);
        Due.due("feed of negative", x.feed(0x80FF00FE), 8);
        Due.due("fed tape", Due.hex(x), "0102038480FF00FE");
        for (int bytes = 12; bytes <= 400; bytes += 4) {
            Due.due("feed up to " + bytes, x.feed(bytes), bytes);
        }
        Due.throwing("feed above 400", () -> x.feed(1), IllegalStateException.class);
        Due.due("feed refused changes nothing", x.trim(0), 400);
        Due.due("the last byte", x.spoil(399, 0), 400 & 255);
        for (int over = 1; over <= 3; over++) {
            x.trim(1);
            Due.throwing("feed above 400 from " + (400 - over), () -> x.feed(1), IllegalStateException.class);
        }
        x.trim(1);
        Due.due("feed up to 400 again", x.feed(0x0A0B0C0D), 400);
        Due.due("the first of the last bytes", x.spoil(396, 0), 10);
        Due.due("the last of the last bytes", x.spoil(399, 0), 13);
        Due.due("the draft stays", Due.draft(x), "800/0");
    }

    private static void trim() {
        CardMessages x = Due.taped("01 02 03 04 05 06 07");
        Due.refused("trim(8)", () -> x.trim(8));
        Due.refused("trim(-1)", () -> x.trim(-1));
        Due.refused("trim of the least", () -> x.trim(Integer.MIN_VALUE));
        Due.refused("trim of the most", () -> x.trim(Integer.MAX_VALUE));
        Due.due("trim refused changes nothing", Due.hex(x), "01020304050607");
        Due.due("trim(0)", x.trim(0), 7);
        Due.due("trim(2)", x.trim(2), 5);
        Due.due("feed behind the rest", x.feed(0x0A0B0C0D), 9);
        Due.due("its tape", Due.hex(x), "01020304050A0B0C0D");
        Due.due("trim of all", x.trim(9), 0);
        Due.due("trim(0) of none", x.trim(0), 0);
        Due.refused("trim(1) of none", () -> x.trim(1));
    }

    private static void spoil() {
        CardMessages x = Due.taped("00 FF 5A");
        Due.due("spoil(0, 255)", x.spoil(0, 255), 255);
        Due.due("spoil(1, 255)", x.spoil(1, 255), 0);
        Due.due("spoil(2, 0)", x.spoil(2, 0), 0x5A);
        Due.due("spoil(2, 128)", x.spoil(2, 128), 0xDA);
        Due.due("spoiled tape", Due.hex(x), "FF00DA");
        int[][] wrong = {{-1, 0}, {3, 0}, {4, 1}, {400, 1}, {Integer.MIN_VALUE, 1}, {Integer.MAX_VALUE, 1},
            {0, -1}, {0, 256}, {0, Integer.MIN_VALUE}, {0, Integer.MAX_VALUE}};
        for (int[] pair : wrong) {
            Due.refused("spoil(" + pair[0] + ", " + pair[1] + ")", () -> x.spoil(pair[0], pair[1]));
        }
        Due.due("spoil refused changes nothing", Due.hex(x), "FF00DA");
        CardMessages empty = new CardMessages();
        Due.refused("spoil(0, 0) of none", () -> empty.spoil(0, 0));
    }
}
