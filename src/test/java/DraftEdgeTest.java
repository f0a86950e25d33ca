/**
 * Promises 1 to 11: each sentence that names a boundary case, on both sides of it. The comment
 * ahead of a test is the sentence.
 */
public final class DraftEdgeTest {
    private static final int LEAST = Integer.MIN_VALUE;
    private static final int MOST = Integer.MAX_VALUE;

    private DraftEdgeTest() {
    }

    public static void main(String[] args) {
        noneIsBelowAll();
        newTapeIsEmpty();
        newDraftIs800AndNone();
        fieldsThatAreNotKnown();
        messageBounds();
        messageLeavesNoFields();
        digitsOfFixedFields();
        digitsAsManyAsVHas();
        digitsOfOriginalAreItsLast();
        digitsOfLetterFields();
        digitsBelowZero();
        digitsTooMany();
        digitsPutAnew();
        lettersOfFixedFields();
        lettersOfNote();
        lettersWrapAround();
        lettersFromZeroToThirtyOne();
        lettersOfDigitFields();
        lettersPutAnew();
        originalPlaces();
        originalOverNines();
        originalBounds();
        omitOfThereAndNot();
        typeOfTheDraft();
        sizeLeastAndMost();
        sizeWithout();
        atFirstAndLast();
        atOfNoneSuch();
        numberOfEighteenDigits();
        numberWithout();
        numberOfLetterFields();
        fieldsFromNoneToAll();
        fieldsLeaveOneAnother();
        draftCallsLeaveTheTape();
        Due.end("DraftEdgeTest");
    }

    // ---- the constants

    /** "NONE = -1: There is none." */
    private static void noneIsBelowAll() {
        Due.due("NONE", CardMessages.NONE, -1);
    }

    // ---- 1, a new object

    /** "An empty tape." */
    private static void newTapeIsEmpty() {
        CardMessages x = new CardMessages();
        Due.due("new: trim(0)", x.trim(0), 0);
        Due.refused("new: trim(1)", () -> x.trim(1));
        Due.refused("new: spoil(0, 0)", () -> x.spoil(0, 0));
        Due.due("new: fault(0)", x.fault(0), 1);
        Due.due("new: fault(1)", x.fault(1), 0);
        Due.due("new: read()", x.read(), false);
        Due.due("new: the first feed", x.feed(7), 4);
    }

    /** "THE DRAFT has a type and fields, at first 800 and none." */
    private static void newDraftIs800AndNone() {
        CardMessages x = new CardMessages();
        Due.due("new: type()", x.type(), 800);
        Due.due("new: fields()", x.fields(), 0);
        for (int field : Due.FIELDS) {
            Due.due("new: size(" + field + ")", x.size(field), CardMessages.NONE);
            Due.due("new: omit(" + field + ")", x.omit(field), false);
        }
        Due.due("new: compose()", x.compose(), 10);
        Due.due("new: its tape", Due.hex(x), "0800" + "0".repeat(16));
    }

    // ---- all calls

    /** "In all calls illegal argument: .. the field is not known." */
    private static void fieldsThatAreNotKnown() {
        for (int field : Fields.unknown()) {
            String behind = "(" + field + ", ..)";
            States.refused("digits" + behind, x -> x.digits(field, 1));
            States.refused("letters" + behind, x -> x.letters(field, 1, 0));
            States.refused("letters of one" + behind, x -> x.letters(field, 1, 1));
            States.refused("omit" + behind, x -> x.omit(field));
            States.refused("size" + behind, x -> x.size(field));
            States.refused("at" + behind, x -> x.at(field, 0));
            States.refused("number" + behind, x -> x.number(field));
        }
        for (int field : Due.FIELDS) {
            CardMessages x = States.made(States.FULL);
            Due.due("size(" + field + ") of a known one", x.size(field) > 0, true);
            Due.due("at(" + field + ", 0) of a known one", x.at(field, 0) >= 0, true);
            Due.due("omit(" + field + ") of a known one", x.omit(field), true);
        }
    }

    // ---- 2, message

    /** "The draft has this type (0 .. 9999) .. Illegal argument." */
    private static void messageBounds() {
        for (int type : new int[] {0, 1, 9998, 9999}) {
            CardMessages x = States.made(States.FULL);
            x.message(type);
            Due.due("message(" + type + "), type()", x.type(), type);
        }
        for (int type : new int[] {-1, 10000, LEAST, MOST, 65536, -9999}) {
            States.refused("message(" + type + ")", x -> x.message(type));
        }
    }

    /** ".. and no fields." */
    private static void messageLeavesNoFields() {
        for (int state : new int[] {States.EMPTY, States.FULL, States.FAULTY, States.COMPOSED}) {
            CardMessages x = States.made(state);
            String tape = Due.hex(x);
            x.message(x.type());
            Due.due("message of the same type, state " + state, Due.draft(x), x.type() + "/0");
            Due.due("message leaves the tape, state " + state, Due.hex(x), tape);
        }
    }

    // ---- 3, digits

    /** "A field of the draft with so many digits: v, with 0s in front." */
    private static void digitsOfFixedFields() {
        for (int field : Fields.OF_DIGITS) {
            if (!Fields.isCounted(field) && field != 90) {
                int most = Fields.most(field);
                long highest = Fields.power(most) - 1;
                for (long v : new long[] {0, 1, 9, 10, highest / 10, highest / 10 + 1, highest - 1, highest}) {
                    putDigits(field, v, Fields.padded(v, most));
                }
            }
        }
    }

    private static void putDigits(int field, long v, String want) {
        CardMessages x = new CardMessages();
        x.digits(field, v);
        String call = "digits(" + field + ", " + v + ")";
        Due.due(call + ", marks", Due.marks(x, field), want);
        Due.due(call + ", size", x.size(field), want.length());
        Due.due(call + ", fields()", x.fields(), 1);
    }

    /** "(of 2 and 32 as many digits as v has ..)" */
    private static void digitsAsManyAsVHas() {
        for (int field : new int[] {2, 32}) {
            putDigits(field, 0, "0");
            putDigits(field, 1, "1");
            for (int count = 1; count <= Math.min(18, Fields.most(field)); count++) {
                long over = Fields.power(count);
                putDigits(field, over - 1, "9".repeat(count));
                if (count < Fields.most(field)) {
                    putDigits(field, over, "1" + "0".repeat(count));
                }
            }
        }
        putDigits(2, Long.MAX_VALUE - 1, "9223372036854775806");
        putDigits(2, Long.MAX_VALUE, "9223372036854775807");
    }

    /** "(.. of 90 as the last ones of its 42)" */
    private static void digitsOfOriginalAreItsLast() {
        for (long v : new long[] {0, 9, 10, Fields.power(18) - 1, Fields.power(18), Long.MAX_VALUE}) {
            putDigits(90, v, Fields.padded(v, 42));
        }
        CardMessages x = new CardMessages();
        x.original(9999, 999999, 99999);
        x.digits(90, 7);
        Due.due("digits(90, 7) over an original", Due.marks(x, 90), Fields.padded(7, 42));
    }

    /** "Illegal argument: also if the field has no digits" */
    private static void digitsOfLetterFields() {
        for (int field : Fields.OF_LETTERS) {
            States.refused("digits(" + field + ", 0)", x -> x.digits(field, 0));
            States.refused("digits(" + field + ", 12)", x -> x.digits(field, 12));
        }
    }

    /** ".. or v is below 0" */
    private static void digitsBelowZero() {
        for (int field : Fields.OF_DIGITS) {
            for (long v : new long[] {-1, -9, -10, LEAST, Long.MIN_VALUE, Long.MIN_VALUE + 1}) {
                States.refused("digits(" + field + ", " + v + ")", x -> x.digits(field, v));
            }
        }
    }

    /** ".. or has more than the field can have." */
    private static void digitsTooMany() {
        for (int field : Fields.OF_DIGITS) {
            int most = Fields.most(field);
            if (most < 19) {
                long over = Fields.power(most);
                for (long v : new long[] {over, over + 1, Fields.power(18), Long.MAX_VALUE}) {
                    States.refused("digits(" + field + ", " + v + ")", x -> x.digits(field, v));
                }
            }
        }
    }

    private static void digitsPutAnew() {
        CardMessages x = States.made(States.FULL);
        x.digits(2, Long.MAX_VALUE);
        x.digits(2, 0);
        Due.due("digits(2) of one over 19", Due.marks(x, 2), "0");
        x.digits(2, 1234567890123456789L);
        Due.due("digits(2) of 19 over one", Due.marks(x, 2), "1234567890123456789");
        x.digits(4, 999999999999L);
        x.digits(4, 5);
        Due.due("digits(4, 5) over nines", Due.marks(x, 4), "000000000005");
        Due.due("fields() behind fields put anew", x.fields(), 16);
    }

    // ---- 4, letters

    /** "of others as many as it has, n being 0 .. Illegal argument: also if .. n is not 0" */
    private static void lettersOfFixedFields() {
        for (int field : Fields.OF_LETTERS) {
            if (field != 54) {
                int most = Fields.most(field);
                CardMessages x = new CardMessages();
                x.letters(field, -1, 0);
                Due.due("letters(" + field + ", -1, 0)", Due.draft(x), "800/1 " + field + "=" + "V".repeat(most));
                for (int n : new int[] {-1, 1, most - 1, most, most + 1, 40, LEAST, MOST}) {
                    States.refused("letters(" + field + ", 1, " + n + ")", y -> y.letters(field, 1, n));
                }
            }
        }
    }

    /** "of 54 with n of them .. or of 54 not 1 .. 40." */
    private static void lettersOfNote() {
        for (int n : new int[] {1, 2, 39, 40}) {
            CardMessages x = new CardMessages();
            x.letters(54, 0, n);
            Due.due("letters(54, 0, " + n + ")", Due.draft(x), "800/1 54=" + "0".repeat(n));
        }
        for (int n : new int[] {LEAST, -40, -1, 0, 41, 42, 256 + 1, MOST}) {
            States.refused("letters(54, 1, " + n + ")", x -> x.letters(54, 1, n));
        }
    }

    /** "letter k is number ((v >> 5 (k modulo 12)) & 31)": from letter 12 on v begins anew. */
    private static void lettersWrapAround() {
        String twelve = "123456789ABC";
        long v = 0;
        for (int k = 11; k >= 0; k--) {
            v = v << 5 | k + 1;
        }
        // The four bits that no letter takes may be anything.
        for (long free : new long[] {0, 1L << 60, Long.MIN_VALUE, -1L << 60}) {
            for (int n : new int[] {11, 12, 13, 23, 24, 25, 35, 36, 37, 40}) {
                CardMessages x = new CardMessages();
                x.letters(54, v | free, n);
                Due.due("letters(54, .., " + n + ")", Due.marks(x, 54), twelve.repeat(4).substring(0, n));
            }
            CardMessages x = new CardMessages();
            x.letters(37, v | free, 0);
            Due.due("letters(37, .., 0)", Due.marks(x, 37), twelve);
        }
    }

    /** ".. of 0 .. 9, A .. Z" */
    private static void lettersFromZeroToThirtyOne() {
        int[] numbers = {0, 1, 9, 10, 11, 30, 31};
        String letters = "019ABUV";
        for (int i = 0; i < numbers.length; i++) {
            for (int k = 0; k < 12; k++) {
                CardMessages x = new CardMessages();
                x.letters(37, (long) numbers[i] << 5 * k, 0);
                Due.due("letter " + k + " of number " + numbers[i], x.at(37, k), letters.charAt(i));
                Due.due("the letter beside it", x.at(37, k == 0 ? 1 : k - 1), '0');
            }
        }
    }

    /** "Illegal argument: also if the field has no letters" */
    private static void lettersOfDigitFields() {
        for (int field : Fields.OF_DIGITS) {
            for (int n : new int[] {0, 1, 40}) {
                States.refused("letters(" + field + ", 1, " + n + ")", x -> x.letters(field, 1, n));
            }
        }
    }

    private static void lettersPutAnew() {
        CardMessages x = States.made(States.FULL);
        x.letters(54, -1, 40);
        x.letters(54, 0, 1);
        Due.due("letters(54) of one over 40", Due.marks(x, 54), "0");
        x.letters(54, 0, 40);
        Due.due("letters(54) of 40 over one", Due.marks(x, 54), "0".repeat(40));
        x.letters(39, 10, 0);
        Due.due("letters(39) over others", Due.marks(x, 39), "A0");
        Due.due("fields() behind fields put anew", x.fields(), 16);
    }

    // ---- 5, original

    /** "a type, a trace, 10 zeros, an acquirer in 11 digits, 11 zeros." */
    private static void originalPlaces() {
        putOriginal(0, 0, 0, "0".repeat(42));
        putOriginal(1, 0, 0, "0001" + "0".repeat(38));
        putOriginal(9999, 0, 0, "9999" + "0".repeat(38));
        putOriginal(0, 1, 0, "0000" + "000001" + "0".repeat(32));
        putOriginal(0, 999999, 0, "0000" + "999999" + "0".repeat(32));
        putOriginal(0, 0, 1, "0".repeat(20) + "00000000001" + "0".repeat(11));
        putOriginal(0, 0, 99999, "0".repeat(20) + "00000099999" + "0".repeat(11));
        putOriginal(9999, 999999, 99999, "9999" + "999999" + "0".repeat(16) + "99999" + "0".repeat(11));
    }

    private static void putOriginal(int type, int trace, int acquirer, String want) {
        for (int state : new int[] {States.EMPTY, States.FULL, States.COMPOSED}) {
            CardMessages x = States.made(state);
            int fields = x.fields() + (x.size(90) == CardMessages.NONE ? 1 : 0);
            int draftType = x.type();
            x.original(type, trace, acquirer);
            String call = "original(" + type + ", " + trace + ", " + acquirer + "), state " + state;
            Due.due(call, Due.marks(x, 90), want);
            Due.due(call + ", fields()", x.fields(), fields);
            Due.due(call + ", type()", x.type(), draftType);
        }
    }

    /** All its digits are written, whatever stood there before. */
    private static void originalOverNines() {
        CardMessages x = highest();
        x.original(1, 2, 3);
        Due.due("original over nines", Due.marks(x, 90),
                "0001" + "000002" + "0".repeat(10) + "00000000003" + "0".repeat(11));
    }

    /** A draft whose fields are all digits 9 and letters Z, as many as they can have. */
    private static CardMessages highest() {
        CardMessages x = Due.taped("0810 F02000010E808400 0440044200000000 19 09" + "99".repeat(9) + "99".repeat(12)
                + "11 09" + "99".repeat(5) + "5A".repeat(28) + "0999 0040" + "5A".repeat(40) + "0999"
                + "99".repeat(40));
        Due.due("read() of nines", x.read(), true);
        return x;
    }

    /** "Illegal argument: they are not 0 .. 9999, 0 .. 999999, 0 .. 99999." */
    private static void originalBounds() {
        for (int type : new int[] {LEAST, -1, 10000, MOST}) {
            refusedOriginal(type, 1, 1);
        }
        for (int trace : new int[] {LEAST, -1, 1000000, MOST}) {
            refusedOriginal(1, trace, 1);
        }
        for (int acquirer : new int[] {LEAST, -1, 100000, MOST}) {
            refusedOriginal(1, 1, acquirer);
        }
        refusedOriginal(10000, 1000000, 100000);
        refusedOriginal(-1, -1, -1);
    }

    private static void refusedOriginal(int type, int trace, int acquirer) {
        States.refused("original(" + type + ", " + trace + ", " + acquirer + ")",
                x -> x.original(type, trace, acquirer));
    }

    // ---- 6, omit

    /** "A field goes from the draft: whether it was there." */
    private static void omitOfThereAndNot() {
        for (int field : Due.FIELDS) {
            CardMessages x = States.made(States.FULL);
            String tape = Due.hex(x);
            Due.due("omit(" + field + ") of all", x.omit(field), true);
            Due.due("omit(" + field + ") again", x.omit(field), false);
            Due.due("size(" + field + ") behind it", x.size(field), CardMessages.NONE);
            Due.due("fields() behind it", x.fields(), 15);
            Due.due("type() behind it", x.type(), 230);
            Due.due("omit leaves the tape", Due.hex(x), tape);
            CardMessages one = new CardMessages();
            putLeast(one, field);
            Due.due("omit(" + field + ") of this one", one.omit(field), true);
            Due.due("the draft behind it", Due.draft(one), "800/0");
            putLeast(one, field);
            Due.due("put again behind omit", one.fields(), 1);
        }
    }

    private static void putLeast(CardMessages x, int field) {
        if (Fields.hasLetters(field)) {
            x.letters(field, 0, field == 54 ? 1 : 0);
        } else {
            x.digits(field, 0);
        }
    }

    private static void putMost(CardMessages x, int field) {
        if (Fields.hasLetters(field)) {
            x.letters(field, -1, field == 54 ? 40 : 0);
        } else {
            x.digits(field, Fields.most(field) > 18 ? Long.MAX_VALUE : Fields.power(Fields.most(field)) - 1);
        }
    }

    // ---- 7, type

    /** "The draft's type." */
    private static void typeOfTheDraft() {
        CardMessages x = new CardMessages();
        Due.due("type() at first", x.type(), 800);
        x.message(0);
        Due.due("type() of 0", x.type(), 0);
        x.message(9999);
        Due.due("type() of 9999", x.type(), 9999);
        Due.load(x, "0100" + "00".repeat(8));
        Due.due("type() is not the tape's", x.type(), 9999);
        x.read();
        Due.due("type() behind read()", x.type(), 100);
        Due.load(x, "0102" + "00".repeat(8));
        x.read();
        Due.due("type() behind a read() of a fault", x.type(), 100);
    }

    // ---- 8, size

    /** "How many digits or letters a field of the draft has" */
    private static void sizeLeastAndMost() {
        for (int field : Due.FIELDS) {
            CardMessages x = new CardMessages();
            putLeast(x, field);
            Due.due("size(" + field + ") at its least", x.size(field),
                    Fields.isCounted(field) ? 1 : Fields.most(field));
            putMost(x, field);
            Due.due("size(" + field + ") at its most", x.size(field), Fields.most(field));
        }
    }

    /** ".. NONE without it." */
    private static void sizeWithout() {
        for (int field : Due.FIELDS) {
            CardMessages x = States.made(States.FULL);
            x.omit(field);
            Due.due("size(" + field + ") omitted", x.size(field), CardMessages.NONE);
            for (int other : Due.FIELDS) {
                Due.due("size(" + other + ") without " + field, x.size(other) == CardMessages.NONE, other == field);
            }
            putLeast(x, field);
            x.message(1);
            Due.due("size(" + field + ") behind message", x.size(field), CardMessages.NONE);
        }
    }

    // ---- 9, at

    /** "Digit k (0 .. 9), or letter k as its byte, of a field of the draft." */
    private static void atFirstAndLast() {
        for (int field : Due.FIELDS) {
            CardMessages x = new CardMessages();
            boolean letters = Fields.hasLetters(field);
            putMost(x, field);
            int last = Fields.most(field) - 1;
            Due.due("at(" + field + ", 0), most", x.at(field, 0), letters ? 'V' : field == 90 ? 0 : 9);
            Due.due("at(" + field + ", last), most", x.at(field, last), letters ? 'V' : last > 17 ? 7 : 9);
            putLeast(x, field);
            Due.due("at(" + field + ", 0), least", x.at(field, 0), letters ? '0' : 0);
            last = x.size(field) - 1;
            Due.due("at(" + field + ", last), least", x.at(field, last), letters ? '0' : 0);
        }
    }

    /** "Illegal argument: also if there is none such." */
    private static void atOfNoneSuch() {
        for (int field : Due.FIELDS) {
            States.refused("at(" + field + ", -1)", x -> x.at(field, -1));
            States.refused("at(" + field + ", least)", x -> x.at(field, LEAST));
            States.refused("at(" + field + ", most)", x -> x.at(field, MOST));
            States.refused("at(" + field + ", all that it can have)", x -> x.at(field, Fields.most(field)));
            States.refused("at(" + field + ", 0) without it", States.EMPTY, x -> x.at(field, 0));
            int size = States.made(States.FULL).size(field);
            States.refused("at(" + field + ", size)", States.FULL, x -> x.at(field, size));
            States.refused("at(" + field + ", 0) omitted", () -> without(field), x -> x.at(field, 0));
        }
        States.refused("at(2, 1) of one digit", () -> shrunk(), x -> x.at(2, 1));
        States.refused("at(54, 1) of one letter", () -> shrunk(), x -> x.at(54, 1));
    }

    private static CardMessages without(int field) {
        CardMessages x = States.made(States.FULL);
        x.omit(field);
        return x;
    }

    /** Fields that had more digits and letters before. */
    private static CardMessages shrunk() {
        CardMessages x = new CardMessages();
        x.digits(2, Long.MAX_VALUE);
        x.digits(2, 3);
        x.letters(54, -1, 40);
        x.letters(54, -1, 1);
        return x;
    }

    // ---- 10, number

    /** "The number that the last 18 digits (all, if less) of a field of the draft are" */
    private static void numberOfEighteenDigits() {
        putNumber(2, 0, 0);
        putNumber(2, 12345678901234567L, 12345678901234567L);
        putNumber(2, 123456789012345678L, 123456789012345678L);
        putNumber(2, 999999999999999999L, 999999999999999999L);
        putNumber(2, 1000000000000000000L, 0);
        putNumber(2, 1234567890123456789L, 234567890123456789L);
        putNumber(2, Long.MAX_VALUE, 223372036854775807L);
        putNumber(90, 999999999999999999L, 999999999999999999L);
        putNumber(90, 1000000000000000000L, 0);
        putNumber(90, Long.MAX_VALUE, 223372036854775807L);
        for (int field : Fields.OF_DIGITS) {
            putNumber(field, 0, 0);
            putNumber(field, 1, 1);
            if (Fields.most(field) <= 18) {
                long highest = Fields.power(Fields.most(field)) - 1;
                putNumber(field, highest, highest);
            }
        }
        CardMessages x = new CardMessages();
        x.original(9999, 999999, 99999);
        Due.due("number(90) of an original", x.number(90), 9999900000000000L);
    }

    private static void putNumber(int field, long v, long want) {
        CardMessages x = new CardMessages();
        x.digits(field, v);
        Due.due("digits(" + field + ", " + v + "), number", x.number(field), want);
    }

    /** ".. NONE without it." */
    private static void numberWithout() {
        for (int field : Fields.OF_DIGITS) {
            Due.due("number(" + field + ") of none", new CardMessages().number(field), CardMessages.NONE);
            CardMessages x = without(field);
            Due.due("number(" + field + ") omitted", x.number(field), CardMessages.NONE);
            x.digits(field, 0);
            Due.due("number(" + field + ") of 0", x.number(field), 0);
        }
    }

    /** "Illegal argument: also if the field has no digits." */
    private static void numberOfLetterFields() {
        for (int field : Fields.OF_LETTERS) {
            States.refused("number(" + field + ")", x -> x.number(field));
            States.refused("number(" + field + ") omitted", () -> without(field), x -> x.number(field));
        }
    }

    // ---- 11, fields

    /** "How many fields the draft has." */
    private static void fieldsFromNoneToAll() {
        CardMessages x = new CardMessages();
        Due.due("fields() of none", x.fields(), 0);
        for (int i = 0; i < Due.FIELDS.length; i++) {
            putLeast(x, Due.FIELDS[i]);
            Due.due("fields() with " + Due.FIELDS[i], x.fields(), i + 1);
            putMost(x, Due.FIELDS[i]);
            Due.due("fields() with " + Due.FIELDS[i] + " put anew", x.fields(), i + 1);
        }
        Due.due("fields() of all", x.fields(), 16);
        for (int i = 0; i < Due.FIELDS.length; i++) {
            x.omit(Due.FIELDS[i]);
            Due.due("fields() without " + Due.FIELDS[i], x.fields(), 15 - i);
            x.omit(Due.FIELDS[i]);
            Due.due("fields() behind a second omit", x.fields(), 15 - i);
        }
        Due.due("fields() of none again", x.fields(), 0);
    }

    // ---- the fields beside one another, and the tape

    /** Whatever is put into a field, the others keep all their digits and letters. */
    private static void fieldsLeaveOneAnother() {
        for (int field : Due.FIELDS) {
            CardMessages x = highest();
            putLeast(x, field);
            othersAreHighest(x, field);
            CardMessages y = highest();
            y.omit(field);
            putMost(y, field);
            othersAreHighest(y, field);
        }
        CardMessages z = highest();
        z.original(0, 0, 0);
        othersAreHighest(z, 90);
    }

    private static void othersAreHighest(CardMessages x, int field) {
        for (int other : Due.FIELDS) {
            if (other != field) {
                Due.due(other + " behind " + field + " was put", Due.marks(x, other),
                        (Fields.hasLetters(other) ? "Z" : "9").repeat(Fields.most(other)));
            }
        }
    }

    /** Only compose, feed, trim and spoil are said to change the tape. */
    private static void draftCallsLeaveTheTape() {
        CardMessages x = States.made(States.COMPOSED);
        String tape = Due.hex(x);
        for (int field : Due.FIELDS) {
            putMost(x, field);
        }
        x.original(1, 2, 3);
        x.omit(2);
        Due.due("the tape behind changes of the draft", Due.hex(x), tape);
        Due.due("fault(0) behind changes of the draft", x.fault(0), 0);
    }
}
