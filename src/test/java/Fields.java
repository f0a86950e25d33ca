/** The document's table of fields. */
final class Fields {
    static final int[] OF_DIGITS = {2, 3, 4, 11, 32, 49, 70, 74, 86, 90, 95};
    static final int[] OF_LETTERS = {37, 38, 39, 41, 54};
    private static final int LOWEST_BESIDE = -2;
    private static final int HIGHEST_BESIDE = 130;

    private Fields() {
    }

    static boolean isKnown(int field) {
        return most(field) != 0;
    }

    static String name(int field) {
        return switch (field) {
            case 2 -> "CARD";
            case 3 -> "MODE";
            case 4 -> "AMOUNT";
            case 11 -> "TRACE";
            case 32 -> "ACQUIRER";
            case 37 -> "REFERENCE";
            case 38 -> "APPROVAL";
            case 39 -> "RESPONSE";
            case 41 -> "TERMINAL";
            case 49 -> "CURRENCY";
            case 54 -> "NOTE";
            case 70 -> "NETWORK";
            case 74 -> "COUNT";
            case 86 -> "SUM";
            case 90 -> "ORIGINAL";
            case 95 -> "REPLACEMENT";
            default -> "";
        };
    }

    static boolean hasLetters(int field) {
        return switch (field) {
            case 37, 38, 39, 41, 54 -> true;
            default -> false;
        };
    }

    /** Whether it tells how many digits or letters it has. */
    static boolean isCounted(int field) {
        return field == 2 || field == 32 || field == 54;
    }

    /** How many digits or letters it can have; 0 of a field that is not known. */
    static int most(int field) {
        return switch (field) {
            case 2 -> 19;
            case 3, 11, 38 -> 6;
            case 4, 37, 95 -> 12;
            case 32 -> 11;
            case 39 -> 2;
            case 41 -> 8;
            case 49, 70 -> 3;
            case 54 -> 40;
            case 74 -> 10;
            case 86 -> 16;
            case 90 -> 42;
            default -> 0;
        };
    }

    /** Every number in and beside the maps that is no field's, and such as wrap around to one. */
    static int[] unknown() {
        int[] found = new int[HIGHEST_BESIDE - LOWEST_BESIDE + 1 - Due.FIELDS.length + 6];
        int count = 0;
        for (int field = LOWEST_BESIDE; field <= HIGHEST_BESIDE; field++) {
            if (!isKnown(field)) {
                found[count++] = field;
            }
        }
        for (int field : new int[] {-95, 256 + 2, 65536 + 2, -256 + 2, Integer.MIN_VALUE, Integer.MAX_VALUE}) {
            found[count++] = field;
        }
        return found;
    }

    /** 10 to this power, up to 18. */
    static long power(int zeros) {
        return Long.parseLong("1" + "0".repeat(zeros));
    }

    /** v as so many digits, with 0s in front. */
    static String padded(long v, int digits) {
        String plain = Long.toString(v);
        return "0".repeat(digits - plain.length()) + plain;
    }
}
