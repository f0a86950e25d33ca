import java.util.Arrays;
import java.util.List;
import java.util.Map;
import java.util.Random;
import java.util.TreeMap;

/** Random runs of calls, each answer compared with that of a second writing of the document. */
public final class ModelTest {
    private static final int RUNS = 4000;
    // The document promises 512 calls of an object; the longest step makes three.
    private static final int CALLS = 509;

    private ModelTest() {
    }

    public static void main(String[] args) {
        for (int seed = 0; seed < RUNS; seed++) {
            new Run(seed).play();
        }
        Due.due("kinds of faults met", Run.metText(), "[true, true, true, true, true, true, true, true]");
        Due.end("ModelTest");
    }

    /** One object beside its model. */
    private static final class Run {
        private static final int COMPOSE = 13;
        private static final int FEED = 14;
        private static final boolean[] MET = new boolean[8];
        private static final int[] ODD_FIELDS = {0, 1, 5, 64, 65, 128, -2, Integer.MAX_VALUE};
        private static final int[] ODD_NUMBERS = {-1, 0, 1, 2, 400, 401, 10000, 1000000, Integer.MIN_VALUE,
            Integer.MAX_VALUE};
        private final CardMessages x = new CardMessages();
        private final Model model = new Model();
        private final Random random;
        private final int seed;
        private int calls = 0;

        Run(int seed) {
            this.seed = seed;
            random = new Random(seed);
        }

        static String metText() {
            return Arrays.toString(MET);
        }

        void play() {
            // Without compose a tape grows up to its 400 bytes.
            boolean grows = seed % 5 == 0;
            while (calls <= CALLS) {
                int which = random.nextInt(20);
                step(grows && which == COMPOSE ? FEED : which);
            }
        }

        private void step(int which) {
            int field = field();
            int k = random.nextInt(10) == 0 ? odd() : random.nextInt(45);
            long v = value();
            switch (which) {
                case 0 -> message();
                case 1, 2, 3 -> same("digits " + field + " " + v, () -> {
                    x.digits(field, v);
                    return 0;
                }, () -> model.digits(field, v));
                case 4, 5 -> letters(field, v);
                case 6 -> original();
                case 7 -> {
                    if (random.nextInt(3) == 0) {
                        same("omit " + field, () -> x.omit(field) ? 1 : 0, () -> model.omit(field));
                    }
                }
                case 8 -> same("type", x::type, () -> model.type);
                case 9 -> same("size " + field, () -> x.size(field), () -> model.size(field));
                case 10 -> same("at " + field + " " + k, () -> x.at(field, k), () -> model.at(field, k));
                case 11 -> same("number " + field, () -> x.number(field), () -> model.number(field));
                case 12 -> same("fields", x::fields, () -> model.fields.size());
                case COMPOSE -> same("compose", x::compose, model::compose);
                case FEED -> feed();
                case 15 -> trim();
                case 16, 17 -> spoil();
                case 18 -> fault();
                default -> same("read", () -> x.read() ? 1 : 0, model::read);
            }
        }

        private void message() {
            int type = random.nextInt(8) == 0 ? odd() : random.nextInt(8) == 0 ? random.nextInt(10000)
                    : Model.TYPES.get(random.nextInt(Model.TYPES.size()));
            same("message " + type, () -> {
                x.message(type);
                return 0;
            }, () -> model.message(type));
        }

        private void letters(int field, long v) {
            int n = random.nextInt(10) == 0 ? odd() : field == 54 ? random.nextInt(42) : 0;
            same("letters " + field + " " + v + " " + n, () -> {
                x.letters(field, v, n);
                return 0;
            }, () -> model.letters(field, v, n));
        }

        private void original() {
            int type = random.nextInt(12) == 0 ? odd() : random.nextInt(10000);
            int trace = random.nextInt(12) == 0 ? odd() : random.nextInt(1000000);
            int acquirer = random.nextInt(12) == 0 ? odd() : random.nextInt(100000);
            same("original " + type + " " + trace + " " + acquirer, () -> {
                x.original(type, trace, acquirer);
                return 0;
            }, () -> model.original(type, trace, acquirer));
        }

        private void feed() {
            int v = random.nextBoolean() ? random.nextInt() : random.nextInt(10) * 0x11111111;
            same("feed " + v, () -> x.feed(v), () -> model.feed(v));
            same("feed " + v, () -> x.feed(v), () -> model.feed(v));
            same("feed " + ~v, () -> x.feed(~v), () -> model.feed(~v));
        }

        private void trim() {
            int n = random.nextInt(10) == 0 ? odd() : random.nextInt(6);
            same("trim " + n, () -> x.trim(n), () -> model.trim(n));
        }

        private void spoil() {
            int length = model.tape.length() / 2;
            int place = random.nextInt(10) == 0 ? odd() : random.nextInt(length + 1);
            if (random.nextInt(3) == 0) {
                place = random.nextInt(20);
            }
            int bits = random.nextInt(10) == 0 ? odd() : random.nextBoolean() ? 1 << random.nextInt(8)
                    : random.nextInt(256);
            int at = place;
            same("spoil " + at + " " + bits, () -> x.spoil(at, bits), () -> model.spoil(at, bits));
            fault();
            if (random.nextInt(3) != 0) {
                same("spoil " + at + " " + bits, () -> x.spoil(at, bits), () -> model.spoil(at, bits));
            }
        }

        private void fault() {
            int what = random.nextInt(10) == 0 ? odd() : random.nextInt(2);
            same("fault " + what, () -> x.fault(what), () -> model.fault(what));
            MET[model.look().kind] = true;
        }

        private int field() {
            return random.nextInt(12) == 0 ? ODD_FIELDS[random.nextInt(ODD_FIELDS.length)]
                    : Due.FIELDS[random.nextInt(Due.FIELDS.length)];
        }

        private int odd() {
            return ODD_NUMBERS[random.nextInt(ODD_NUMBERS.length)];
        }

        private long value() {
            long v = random.nextLong();
            return random.nextInt(10) == 0 ? v : (v & Long.MAX_VALUE) >> random.nextInt(64);
        }

        private void same(String call, Due.Call real, Due.Call wanted) {
            calls++;
            Due.due("run " + seed + ", call " + calls + ", " + call, tried(real), tried(wanted));
        }

        private static String tried(Due.Call call) {
            try {
                return Long.toString(call.answer());
            } catch (RuntimeException e) {
                return e.getClass().getName();
            }
        }
    }

    /** The document once more, with texts: a tape is its hexadecimal digits, a field its characters. */
    private static final class Model {
        static final List<Integer> TYPES = Arrays.asList(
                100, 101, 110, 220, 221, 230, 400, 401, 410, 420, 421, 430, 500, 501, 510, 800, 810);
        private static final Map<Integer, String> KINDS = new TreeMap<>();

        static {
            // n digits, l letters; behind them how many; with .. if they are counted.
            String all = "2:n..19 3:n6 4:n12 11:n6 32:n..11 37:l12 38:l6 39:l2 41:l8 49:n3 54:l..40 70:n3"
                    + " 74:n10 86:n16 90:n42 95:n12";
            for (String one : all.split(" ")) {
                KINDS.put(Integer.valueOf(one.split(":")[0]), one.split(":")[1]);
            }
        }

        int type = 800;
        TreeMap<Integer, String> fields = new TreeMap<>();
        String tape = "";

        private static void must(boolean holds) {
            if (!holds) {
                throw new IllegalArgumentException();
            }
        }

        private static String kind(int field) {
            must(KINDS.containsKey(field));
            return KINDS.get(field);
        }

        private static int most(int field) {
            return Integer.parseInt(kind(field).replaceAll("[nl.]", ""));
        }

        private static boolean counted(int field) {
            return kind(field).contains("..");
        }

        private static String padded(long v, int digits) {
            return String.format("%0" + digits + "d", v);
        }

        private static String even(String digits) {
            return digits.length() % 2 == 0 ? digits : "0" + digits;
        }

        long message(int newType) {
            must(newType >= 0 && newType <= 9999);
            type = newType;
            fields.clear();
            return 0;
        }

        long digits(int field, long v) {
            must(kind(field).startsWith("n") && v >= 0 && Long.toString(v).length() <= most(field));
            fields.put(field, counted(field) ? Long.toString(v) : padded(v, most(field)));
            return 0;
        }

        long letters(int field, long v, int n) {
            must(kind(field).startsWith("l"));
            must(field == 54 ? n >= 1 && n <= 40 : n == 0);
            StringBuilder text = new StringBuilder();
            for (int k = 0; k < (field == 54 ? n : most(field)); k++) {
                text.append("0123456789ABCDEFGHIJKLMNOPQRSTUVWXYZ".charAt((int) ((v >> 5 * (k % 12)) & 31)));
            }
            fields.put(field, text.toString());
            return 0;
        }

        long original(int oldType, int trace, int acquirer) {
            must(oldType >= 0 && oldType <= 9999 && trace >= 0 && trace <= 999999);
            must(acquirer >= 0 && acquirer <= 99999);
            fields.put(90, padded(oldType, 4) + padded(trace, 6) + "0000000000" + padded(acquirer, 11)
                    + "00000000000");
            return 0;
        }

        long omit(int field) {
            kind(field);
            return fields.remove(field) != null ? 1 : 0;
        }

        long size(int field) {
            kind(field);
            return fields.containsKey(field) ? fields.get(field).length() : -1;
        }

        long at(int field, int k) {
            must(k >= 0 && k < size(field));
            char mark = fields.get(field).charAt(k);
            return kind(field).startsWith("n") ? mark - '0' : mark;
        }

        long number(int field) {
            must(kind(field).startsWith("n"));
            if (!fields.containsKey(field)) {
                return -1;
            }
            String digits = fields.get(field);
            return Long.parseLong(digits.substring(Math.max(0, digits.length() - 18)));
        }

        long compose() {
            boolean second = !fields.isEmpty() && fields.lastKey() > 64;
            StringBuilder bits = new StringBuilder(second ? "1" : "0");
            StringBuilder rest = new StringBuilder();
            for (int field = 2; field <= (second ? 128 : 64); field++) {
                bits.append(fields.containsKey(field) ? '1' : '0');
                if (fields.containsKey(field)) {
                    rest.append(written(field));
                }
            }
            tape = padded(type, 4);
            for (int i = 0; i < bits.length(); i += 4) {
                tape += Integer.toHexString(Integer.parseInt(bits.substring(i, i + 4), 2)).toUpperCase();
            }
            tape += rest;
            return tape.length() / 2;
        }

        private String written(int field) {
            String marks = fields.get(field);
            String count = !counted(field) ? "" : field == 54 ? "0" + padded(marks.length(), 3)
                    : padded(marks.length(), 2);
            if (kind(field).startsWith("n")) {
                return count + even(marks);
            }
            StringBuilder text = new StringBuilder(count);
            for (char letter : marks.toCharArray()) {
                text.append(String.format("%02X", (int) letter));
            }
            return text.toString();
        }

        long feed(int v) {
            if (tape.length() / 2 + 4 > 400) {
                throw new IllegalStateException();
            }
            tape += String.format("%08X", v);
            return tape.length() / 2;
        }

        long trim(int n) {
            must(n >= 0 && n <= tape.length() / 2);
            tape = tape.substring(0, tape.length() - 2 * n);
            return tape.length() / 2;
        }

        long spoil(int i, int x) {
            must(i >= 0 && i < tape.length() / 2 && x >= 0 && x <= 255);
            int value = Integer.parseInt(tape.substring(2 * i, 2 * i + 2), 16) ^ x;
            tape = tape.substring(0, 2 * i) + String.format("%02X", value) + tape.substring(2 * i + 2);
            return value;
        }

        long fault(int what) {
            must(what == 0 || what == 1);
            Look look = look();
            return what == 0 ? look.kind : look.place;
        }

        long read() {
            Look look = look();
            if (look.kind != 0) {
                return 0;
            }
            type = look.type;
            fields = look.fields;
            return 1;
        }

        Look look() {
            Look look = new Look(tape);
            try {
                look.message();
            } catch (Look.Stop stop) {
                // What was wrong stands in the look.
            }
            return look;
        }
    }

    /** One reading of a tape, which ends by a Stop at its first fault. */
    private static final class Look {
        static final class Stop extends RuntimeException {
            private static final long serialVersionUID = 1L;
        }

        final TreeMap<Integer, String> fields = new TreeMap<>();
        int type;
        int kind = 0;
        int place = -1;
        private final String tape;
        private int next = 0;

        Look(String tape) {
            this.tape = tape;
        }

        private void stop(int why, int where) {
            kind = why;
            place = where;
            throw new Stop();
        }

        private String taken(int bytes) {
            if (next + bytes > tape.length() / 2) {
                stop(1, tape.length() / 2);
            }
            next += bytes;
            return tape.substring(2 * (next - bytes), 2 * next);
        }

        private String takenDigits(int count) {
            int from = next;
            String halves = taken((count + 1) / 2);
            for (int h = 0; h < halves.length(); h++) {
                boolean front = h == 0 && count % 2 == 1;
                if (front ? halves.charAt(h) != '0' : halves.charAt(h) > '9') {
                    stop(2, from + h / 2);
                }
            }
            return halves.substring(halves.length() - count);
        }

        private String takenLetters(int count) {
            int from = next;
            String halves = taken(count);
            StringBuilder text = new StringBuilder();
            for (int k = 0; k < count; k++) {
                char letter = (char) Integer.parseInt(halves.substring(2 * k, 2 * k + 2), 16);
                if (!String.valueOf(letter).matches("[0-9A-Z]")) {
                    stop(6, from + k);
                }
                text.append(letter);
            }
            return text.toString();
        }

        void message() {
            type = Integer.parseInt(takenDigits(4));
            if (!Model.TYPES.contains(type)) {
                stop(3, 0);
            }
            String maps = bits(taken(8));
            if (maps.charAt(0) == '1') {
                maps += bits(taken(8));
            }
            for (int field = 2; field <= maps.length(); field++) {
                if (maps.charAt(field - 1) == '1' && !Model.KINDS.containsKey(field)) {
                    stop(4, 2 + (field - 1) / 8);
                }
            }
            if (maps.length() == 128 && maps.indexOf('1', 64) < 0) {
                stop(4, 10);
            }
            for (int field = 2; field <= maps.length(); field++) {
                if (maps.charAt(field - 1) == '1') {
                    fields.put(field, value(field));
                }
            }
            if (next < tape.length() / 2) {
                stop(7, next);
            }
        }

        private String value(int field) {
            int count = Model.most(field);
            if (Model.counted(field)) {
                int from = next;
                count = Integer.parseInt(takenDigits(field == 54 ? 3 : 2));
                if (count < 1 || count > Model.most(field)) {
                    stop(5, from);
                }
            }
            return Model.kind(field).startsWith("n") ? takenDigits(count) : takenLetters(count);
        }

        private static String bits(String halves) {
            StringBuilder text = new StringBuilder();
            for (char half : halves.toCharArray()) {
                String four = Integer.toBinaryString(Integer.parseInt(String.valueOf(half), 16));
                text.append("0".repeat(4 - four.length())).append(four);
            }
            return text.toString();
        }
    }
}
