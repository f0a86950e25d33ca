/**
 * Messages of card payments as bytes: a type, maps of which fields are there, and the fields, as
 * digits or letters; written, and read up to the first fault.
 */
public final class CardMessages {
    /** There is none. */
    public static final int NONE = -1;

    private static final int NO_FAULT = 0;
    private static final int SHORT = 1;
    private static final int DIGIT = 2;
    private static final int TYPE = 3;
    private static final int MAP = 4;
    private static final int LENGTH = 5;
    private static final int LETTER = 6;
    private static final int BEHIND = 7;

    private static final int FIRST_TYPE = 800;
    private static final int MOST_TYPE = 9999;
    private static final int TYPE_DIGITS = 4;
    private static final int[] TYPES = {
        100, 101, 110, 220, 221, 230, 400, 401, 410, 420, 421, 430, 500, 501, 510, 800, 810};

    private static final int TAPE_BYTES = 400;
    private static final int FEED_BYTES = 4;
    private static final int MAP_BYTES = 8;
    private static final int MAP_FIELDS = 64;
    private static final int SECOND_MAP_BIT = 0x80;
    // By byte of both maps: the bits that may be 1, the one for the second map among them.
    private static final int[] KNOWN_BITS = {
        0xF0, 0x20, 0x00, 0x01, 0x0E, 0x80, 0x84, 0x00,
        0x04, 0x40, 0x04, 0x42, 0x00, 0x00, 0x00, 0x00};

    // The known fields, a column each; the column is called the field's slot. A MARK is a digit
    // or a letter. Fields that say how many marks they have do so in COUNT_DIGITS digits.
    private static final int SLOTS = 16;
    private static final int[] FIELDS = {
        2, 3, 4, 11, 32, 37, 38, 39, 41, 49, 54, 70, 74, 86, 90, 95};
    private static final int[] MOST_MARKS = {
        19, 6, 12, 6, 11, 12, 6, 2, 8, 3, 40, 3, 10, 16, 42, 12};
    private static final int[] COUNT_DIGITS = {
        2, 0, 0, 0, 2, 0, 0, 0, 0, 0, 3, 0, 0, 0, 0, 0};
    private static final int[] HAS_LETTERS = {
        0, 0, 0, 0, 0, 1, 1, 1, 1, 0, 1, 0, 0, 0, 0, 0};
    // All fields of a draft share one row: each has room for its most marks from here on.
    private static final int[] FIRST_MARK = {
        0, 19, 25, 37, 43, 54, 66, 72, 74, 82, 85, 125, 128, 138, 154, 196};
    private static final int ALL_MARKS = 208;
    private static final int ORIGINAL_SLOT = 14;

    private static final int LONG_DIGITS = 19;
    private static final int NUMBER_DIGITS = 18;
    private static final int LETTERS_IN_LONG = 12;
    private static final int LETTER_BITS = 5;

    private final Draft draft;
    private final Tape tape;
    private final Reader reader;

    /** An empty tape, and a draft of type 800 without fields. */
    public CardMessages() {
        draft = new Draft();
        tape = new Tape();
        reader = new Reader(tape);
    }

    // ---- the draft

    /** The draft has this type, and no fields. */
    public void message(int type) throws IllegalArgumentException {
        if (type < 0 || type > MOST_TYPE) {
            throw new IllegalArgumentException("a type is 0 .. 9999");
        }
        draft.restart(type);
    }

    /** A field of the draft with the digits of v. */
    public void digits(int field, long v) throws IllegalArgumentException {
        int slot = digitSlot(field);
        int count = digitCount(v);
        if (v < 0 || count > MOST_MARKS[slot]) {
            throw new IllegalArgumentException("v is below 0 or has too many digits");
        }
        draft.putNumber(slot, COUNT_DIGITS[slot] == 0 ? MOST_MARKS[slot] : count, v);
    }

    /** A field of the draft with letters, told by v, five bits each. */
    public void letters(int field, long v, int n) throws IllegalArgumentException {
        int slot = knownSlot(field);
        if (HAS_LETTERS[slot] == 0) {
            throw new IllegalArgumentException("the field has no letters");
        }
        boolean fixed = COUNT_DIGITS[slot] == 0;
        if (fixed ? n != 0 : n < 1 || n > MOST_MARKS[slot]) {
            throw new IllegalArgumentException("n is 0, or for a note 1 .. 40");
        }
        draft.putLetters(slot, fixed ? MOST_MARKS[slot] : n, v);
    }

    /** ORIGINAL of the draft, from its parts. */
    public void original(int type, int trace, int acquirer) throws IllegalArgumentException {
        if (type < 0 || type > MOST_TYPE || trace < 0 || trace > 999999
                || acquirer < 0 || acquirer > 99999) {
            throw new IllegalArgumentException("a part is out of its bounds");
        }
        draft.putOriginal(type, trace, acquirer);
    }

    /** A field goes from the draft: whether it was there. */
    public boolean omit(int field) throws IllegalArgumentException {
        int slot = knownSlot(field);
        boolean was = draft.has(slot);
        draft.counts[slot] = 0;
        return was;
    }

    /** The draft's type. */
    public int type() {
        return draft.messageType;
    }

    /** How many digits or letters a field of the draft has; NONE without it. */
    public int size(int field) throws IllegalArgumentException {
        int slot = knownSlot(field);
        return draft.has(slot) ? draft.counts[slot] : NONE;
    }

    /** Digit k, or letter k as its byte, of a field of the draft. */
    public int at(int field, int k) throws IllegalArgumentException {
        int slot = knownSlot(field);
        if (k < 0 || k >= draft.counts[slot]) {
            throw new IllegalArgumentException("there is no such digit or letter");
        }
        return draft.mark(slot, k);
    }

    /** The number that the last 18 digits of a field of the draft are; NONE without it. */
    public long number(int field) throws IllegalArgumentException {
        int slot = digitSlot(field);
        return draft.has(slot) ? draft.lastDigits(slot) : NONE;
    }

    /** How many fields the draft has. */
    public int fields() {
        return draft.fieldCount();
    }

    // ---- the tape

    /** The tape becomes the draft, as a message: how many bytes it has. */
    public int compose() {
        tape.write(draft);
        return tape.length;
    }

    /** Four bytes come behind the tape, the highest first: how many it has. */
    public int feed(int v) throws IllegalStateException {
        if (tape.length + FEED_BYTES > TAPE_BYTES) {
            throw new IllegalStateException("a tape has at most 400 bytes");
        }
        for (int shift = 24; shift >= 0; shift -= 8) {
            tape.append(v >> shift);
        }
        return tape.length;
    }

    /** The last n bytes of the tape go: how many it has. */
    public int trim(int n) throws IllegalArgumentException {
        if (n < 0 || n > tape.length) {
            throw new IllegalArgumentException("there are not so many bytes");
        }
        tape.length -= n;
        return tape.length;
    }

    /** Byte i of the tape becomes itself ^ x: what it is then. */
    public int spoil(int i, int x) throws IllegalArgumentException {
        if (i < 0 || i >= tape.length || x < 0 || x > 255) {
            throw new IllegalArgumentException("no such byte, or x is not 0 .. 255");
        }
        tape.flip(i, x);
        return tape.byteAt(i);
    }

    /** Of the tape: what = 0 the kind of its fault, 0 for none; 1 where it is, NONE for none. */
    public int fault(int what) throws IllegalArgumentException {
        if (what != 0 && what != 1) {
            throw new IllegalArgumentException("what is 0 or 1");
        }
        reader.walk();
        return what == 0 ? reader.faultKind : reader.faultPlace;
    }

    /** The draft becomes what is on the tape: true; false, changing nothing, at a fault. */
    public boolean read() {
        if (!reader.walk()) {
            return false;
        }
        draft.become(reader.found);
        return true;
    }

    // ---- what the calls share

    private static int knownSlot(int field) {
        for (int slot = 0; slot < SLOTS; slot++) {
            if (FIELDS[slot] == field) {
                return slot;
            }
        }
        throw new IllegalArgumentException("the field is not known");
    }

    private static int digitSlot(int field) {
        int slot = knownSlot(field);
        if (HAS_LETTERS[slot] != 0) {
            throw new IllegalArgumentException("the field has no digits");
        }
        return slot;
    }

    private static int digitCount(long v) {
        long rest = v;
        for (int count = 1; count < LONG_DIGITS; count++) {
            rest /= 10;
            if (rest == 0) {
                return count;
            }
        }
        return LONG_DIGITS;
    }

    private static int bytesOfDigits(int count) {
        return (count + 1) / 2;
    }

    private static int mapByte(int field) {
        return (field - 1) / 8;
    }

    private static int mapBit(int field) {
        return 0x80 >> ((field - 1) % 8);
    }

    /** A type and fields, each field with its marks: digits as 0 .. 9, letters as their bytes. */
    private static final class Draft {
        int messageType = FIRST_TYPE;
        // A field that is there has a mark at least, so 0 says that it isn't.
        final int[] counts = new int[SLOTS];
        final byte[] marks = new byte[ALL_MARKS];

        void restart(int newType) {
            messageType = newType;
            for (int slot = 0; slot < SLOTS; slot++) {
                counts[slot] = 0;
            }
        }

        void become(Draft other) {
            messageType = other.messageType;
            System.arraycopy(other.counts, 0, counts, 0, SLOTS);
            System.arraycopy(other.marks, 0, marks, 0, ALL_MARKS);
        }

        boolean has(int slot) {
            return counts[slot] != 0;
        }

        int fieldCount() {
            int count = 0;
            for (int slot = 0; slot < SLOTS; slot++) {
                if (has(slot)) {
                    count++;
                }
            }
            return count;
        }

        int mark(int slot, int k) {
            return marks[FIRST_MARK[slot] + k];
        }

        void setMark(int slot, int k, int mark) {
            marks[FIRST_MARK[slot] + k] = (byte) mark;
        }

        void putNumber(int slot, int count, long v) {
            setDigits(slot, 0, count, v);
            counts[slot] = count;
        }

        void putOriginal(int type, int trace, int acquirer) {
            setDigits(ORIGINAL_SLOT, 0, 4, type);
            setDigits(ORIGINAL_SLOT, 4, 6, trace);
            setDigits(ORIGINAL_SLOT, 10, 10, 0);
            setDigits(ORIGINAL_SLOT, 20, 11, acquirer);
            setDigits(ORIGINAL_SLOT, 31, 11, 0);
            counts[ORIGINAL_SLOT] = MOST_MARKS[ORIGINAL_SLOT];
        }

        void putLetters(int slot, int count, long v) {
            for (int k = 0; k < count; k++) {
                int which = (int) (v >> (LETTER_BITS * (k % LETTERS_IN_LONG))) & 31;
                setMark(slot, k, which < 10 ? '0' + which : 'A' + which - 10);
            }
            counts[slot] = count;
        }

        long lastDigits(int slot) {
            int count = counts[slot];
            long value = 0;
            for (int k = Math.max(0, count - NUMBER_DIGITS); k < count; k++) {
                value = value * 10 + mark(slot, k);
            }
            return value;
        }

        private void setDigits(int slot, int from, int count, long v) {
            long rest = v;
            for (int k = from + count - 1; k >= from; k--) {
                setMark(slot, k, (int) (rest % 10));
                rest /= 10;
            }
        }
    }

    /** The bytes, and how a draft is written as them. */
    private static final class Tape {
        final byte[] bytes = new byte[TAPE_BYTES];
        int length = 0;

        int byteAt(int i) {
            return bytes[i] & 255;
        }

        void flip(int i, int bits) {
            bytes[i] = (byte) (bytes[i] ^ bits);
        }

        void append(int value) {
            if (length < TAPE_BYTES) {
                bytes[length] = (byte) value;
                length++;
            }
        }

        void write(Draft draft) {
            length = 0;
            appendNumber(draft.messageType, TYPE_DIGITS);
            appendMaps(draft);
            for (int slot = 0; slot < SLOTS; slot++) {
                if (draft.has(slot)) {
                    appendField(draft, slot);
                }
            }
        }

        private void appendMaps(Draft draft) {
            boolean second = hasFieldOfSecondMap(draft);
            int first = length;
            for (int i = 0; i < (second ? 2 * MAP_BYTES : MAP_BYTES); i++) {
                append(0);
            }
            if (second) {
                flip(first, SECOND_MAP_BIT);
            }
            for (int slot = 0; slot < SLOTS; slot++) {
                if (draft.has(slot)) {
                    flip(first + mapByte(FIELDS[slot]), mapBit(FIELDS[slot]));
                }
            }
        }

        private static boolean hasFieldOfSecondMap(Draft draft) {
            for (int slot = 0; slot < SLOTS; slot++) {
                if (FIELDS[slot] > MAP_FIELDS && draft.has(slot)) {
                    return true;
                }
            }
            return false;
        }

        private void appendField(Draft draft, int slot) {
            int count = draft.counts[slot];
            if (COUNT_DIGITS[slot] != 0) {
                appendNumber(count, COUNT_DIGITS[slot]);
            }
            if (HAS_LETTERS[slot] != 0) {
                appendLetters(draft, slot, count);
            } else {
                appendDigits(draft, slot, count);
            }
        }

        // A 0 in front of odd digits is what an even number of them would show as well.
        private void appendNumber(int v, int digitCount) {
            if (bytesOfDigits(digitCount) == 2) {
                appendPair(v / 1000 % 10, v / 100 % 10);
            }
            appendPair(v / 10 % 10, v % 10);
        }

        private void appendDigits(Draft draft, int slot, int count) {
            int odd = count % 2;
            if (odd != 0) {
                appendPair(0, draft.mark(slot, 0));
            }
            for (int k = odd; k + 1 < count; k += 2) {
                appendPair(draft.mark(slot, k), draft.mark(slot, k + 1));
            }
        }

        private void appendLetters(Draft draft, int slot, int count) {
            for (int k = 0; k < count; k++) {
                append(draft.mark(slot, k));
            }
        }

        private void appendPair(int higher, int lower) {
            append(higher << 4 | lower);
        }
    }

    /** Reads the tape from the front up to its first fault, into a draft of its own. */
    private static final class Reader {
        final Draft found = new Draft();
        int faultKind = NO_FAULT;
        int faultPlace = NONE;
        private final Tape tape;
        private int next = 0;
        private int lastNumber = 0;

        Reader(Tape tape) {
            this.tape = tape;
        }

        /** Whether there is no fault; only then is what was found a whole message. */
        boolean walk() {
            faultKind = NO_FAULT;
            faultPlace = NONE;
            next = 0;
            if (!walkType()) {
                return false;
            }
            int maps = next;
            if (!walkMaps()) {
                return false;
            }
            int mapsEnd = next;
            for (int slot = 0; slot < SLOTS; slot++) {
                int i = maps + mapByte(FIELDS[slot]);
                if (i < mapsEnd && (tape.byteAt(i) & mapBit(FIELDS[slot])) != 0
                        && !walkField(slot)) {
                    return false;
                }
            }
            return next == tape.length || fail(BEHIND, next);
        }

        private boolean walkType() {
            if (!walkNumber(TYPE_DIGITS)) {
                return false;
            }
            for (int i = 0; i < TYPES.length; i++) {
                if (TYPES[i] == lastNumber) {
                    found.restart(lastNumber);
                    return true;
                }
            }
            return fail(TYPE, 0);
        }

        private boolean walkMaps() {
            int first = next;
            if (!reaches(MAP_BYTES)) {
                return false;
            }
            next += MAP_BYTES;
            boolean second = (tape.byteAt(first) & SECOND_MAP_BIT) != 0;
            if (second) {
                if (!reaches(MAP_BYTES)) {
                    return false;
                }
                next += MAP_BYTES;
            }
            for (int i = first; i < next; i++) {
                if ((tape.byteAt(i) & ~KNOWN_BITS[i - first]) != 0) {
                    return fail(MAP, i);
                }
            }
            return !second || hasBit(first + MAP_BYTES) || fail(MAP, first + MAP_BYTES);
        }

        private boolean hasBit(int map) {
            for (int i = map; i < map + MAP_BYTES; i++) {
                if (tape.byteAt(i) != 0) {
                    return true;
                }
            }
            return false;
        }

        private boolean walkField(int slot) {
            int count = MOST_MARKS[slot];
            if (COUNT_DIGITS[slot] != 0) {
                int first = next;
                if (!walkNumber(COUNT_DIGITS[slot])) {
                    return false;
                }
                count = lastNumber;
                if (count < 1 || count > MOST_MARKS[slot]) {
                    return fail(LENGTH, first);
                }
            }
            return HAS_LETTERS[slot] != 0 ? walkLetters(slot, count) : walkDigits(slot, count);
        }

        private boolean walkNumber(int digitCount) {
            if (!areDigits(digitCount)) {
                return false;
            }
            lastNumber = 0;
            for (int k = 0; k < digitCount; k++) {
                lastNumber = lastNumber * 10 + digitAhead(k, digitCount);
            }
            next += bytesOfDigits(digitCount);
            return true;
        }

        private boolean walkDigits(int slot, int count) {
            if (!areDigits(count)) {
                return false;
            }
            for (int k = 0; k < count; k++) {
                found.setMark(slot, k, digitAhead(k, count));
            }
            found.counts[slot] = count;
            next += bytesOfDigits(count);
            return true;
        }

        private boolean walkLetters(int slot, int count) {
            if (!reaches(count)) {
                return false;
            }
            for (int k = 0; k < count; k++) {
                int letter = tape.byteAt(next + k);
                if (!isLetter(letter)) {
                    return fail(LETTER, next + k);
                }
                found.setMark(slot, k, letter);
            }
            found.counts[slot] = count;
            next += count;
            return true;
        }

        private static boolean isLetter(int value) {
            return value >= '0' && value <= '9' || value >= 'A' && value <= 'Z';
        }

        private boolean areDigits(int count) {
            if (!reaches(bytesOfDigits(count))) {
                return false;
            }
            int odd = count % 2;
            for (int half = 0; half < odd + count; half++) {
                if (halfAhead(half) > (half < odd ? 0 : 9)) {
                    return fail(DIGIT, next + half / 2);
                }
            }
            return true;
        }

        private int digitAhead(int k, int count) {
            return halfAhead(count % 2 + k);
        }

        private int halfAhead(int half) {
            int both = tape.byteAt(next + half / 2);
            return half % 2 == 0 ? both >> 4 : both & 15;
        }

        private boolean reaches(int byteCount) {
            return byteCount <= tape.length - next || fail(SHORT, tape.length);
        }

        private boolean fail(int kind, int place) {
            faultKind = kind;
            faultPlace = place;
            return false;
        }
    }
}
