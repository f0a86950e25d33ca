/** What the tests share: comparing answers, and tapes written as hexadecimal digits. */
final class Due {
    interface Call {
        long answer();
    }

    static final int[] FIELDS = {2, 3, 4, 11, 32, 37, 38, 39, 41, 49, 54, 70, 74, 86, 90, 95};

    private static int wrong = 0;
    private static int asked = 0;

    private Due() {
    }

    static void due(String call, long got, long want) {
        asked++;
        if (got != want) {
            tellWrong(call + " answered " + got + ", due is " + want);
        }
    }

    static void due(String call, boolean got, boolean want) {
        due(call, got ? 1L : 0L, want ? 1L : 0L);
    }

    static void due(String call, String got, String want) {
        asked++;
        if (!got.equals(want)) {
            tellWrong(call + " answered " + got + ", due is " + want);
        }
    }

    static void refused(String call, Call c) {
        throwing(call, c, IllegalArgumentException.class);
    }

    static void refused(String call, Runnable c) {
        refused(call, () -> {
            c.run();
            return 0L;
        });
    }

    static void throwing(String call, Call c, Class<? extends RuntimeException> want) {
        asked++;
        try {
            tellWrong(call + " answered " + c.answer() + ", due is " + want.getName());
        } catch (RuntimeException e) {
            if (e.getClass() != want) {
                tellWrong(call + " threw " + e.getClass().getName() + ", due is " + want.getName());
            }
        }
    }

    static void end(String test) {
        System.out.println(test + ": " + asked + " answers looked at, " + wrong + " wrong");
        if (wrong != 0) {
            System.exit(1);
        }
    }

    /** A new object with these bytes on its tape; spaces among the digits are left out. */
    static CardMessages taped(String spacedHex) {
        CardMessages x = new CardMessages();
        load(x, spacedHex);
        return x;
    }

    static void load(CardMessages x, String spacedHex) {
        String hex = spacedHex.replace(" ", "");
        x.trim(x.trim(0));
        int bytes = hex.length() / 2;
        int over = (4 - bytes % 4) % 4;
        String whole = hex + "00".repeat(over);
        for (int i = 0; i < whole.length(); i += 8) {
            x.feed((int) Long.parseLong(whole.substring(i, i + 8), 16));
        }
        x.trim(over);
    }

    static String hex(CardMessages x) {
        int bytes = x.trim(0);
        StringBuilder text = new StringBuilder();
        for (int i = 0; i < bytes; i++) {
            text.append(String.format("%02X", x.spoil(i, 0)));
        }
        return text.toString();
    }

    /** All that can be seen of the draft. */
    static String draft(CardMessages x) {
        StringBuilder text = new StringBuilder();
        text.append(x.type()).append('/').append(x.fields());
        for (int field : FIELDS) {
            int size = x.size(field);
            if (size != CardMessages.NONE) {
                text.append(' ').append(field).append('=').append(marks(x, field));
            }
        }
        return text.toString();
    }

    /** A field's digits or letters as a text. */
    static String marks(CardMessages x, int field) {
        StringBuilder text = new StringBuilder();
        int size = x.size(field);
        for (int k = 0; k < size; k++) {
            int mark = x.at(field, k);
            text.append((char) (mark <= 9 ? '0' + mark : mark));
        }
        return text.toString();
    }

    private static void tellWrong(String what) {
        wrong++;
        System.out.println(what);
    }
}
