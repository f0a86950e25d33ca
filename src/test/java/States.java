import java.util.function.Consumer;
import java.util.function.Supplier;

/** Objects in several states, and calls that must be refused there without changing anything. */
final class States {
    static final int EMPTY = 0;
    static final int FULL = 1;
    static final int FAULTY = 2;
    static final int COMPOSED = 3;
    private static final int COUNT = 4;

    private States() {
    }

    /** A new object in one of the states; no state takes more than 30 calls to make. */
    static CardMessages made(int state) {
        return switch (state) {
            case FULL -> full();
            case FAULTY -> faulty();
            case COMPOSED -> composed();
            default -> new CardMessages();
        };
    }

    /** All fields in the draft, another message on the tape. */
    private static CardMessages full() {
        CardMessages x = Due.taped("0100 20 00 00 00 00 00 00 00 98 76 54");
        x.message(230);
        for (int field : Fields.OF_DIGITS) {
            x.digits(field, 1 + field);
        }
        for (int field : Fields.OF_LETTERS) {
            x.letters(field, 0x123456789ABCDEFL, field == 54 ? 5 : 0);
        }
        return x;
    }

    /** Two fields in the draft, a fault on the tape. */
    private static CardMessages faulty() {
        CardMessages x = Due.taped("0800 00 00 00 00 02 00 00 00 30 2F FF");
        x.message(9999);
        x.digits(2, 77);
        x.letters(39, -1, 0);
        return x;
    }

    /** The draft is the tape. */
    private static CardMessages composed() {
        CardMessages x = new CardMessages();
        x.message(420);
        x.original(100, 123456, 54321);
        x.digits(32, 12345);
        x.letters(54, 42, 3);
        x.compose();
        return x;
    }

    /** The call is refused for its arguments, in every state, and changes nothing. */
    static void refused(String call, Consumer<CardMessages> act) {
        for (int state = 0; state < COUNT; state++) {
            refused(call, state, act);
        }
    }

    static void refused(String call, int state, Consumer<CardMessages> act) {
        refused("state " + state + ", " + call, () -> made(state), act);
    }

    /** Of two equal objects only one gets the call: both must answer everything alike behind it. */
    static void refused(String call, Supplier<CardMessages> maker, Consumer<CardMessages> act) {
        CardMessages x = maker.get();
        Due.refused(call, () -> act.accept(x));
        Due.due(call + " refused, what there is then", whole(x), whole(maker.get()));
    }

    /** All that can be seen of the object, and what it does next. */
    static String whole(CardMessages x) {
        StringBuilder text = new StringBuilder(Due.draft(x));
        text.append(" tape ").append(Due.hex(x));
        text.append(" fault ").append(x.fault(0)).append(" at ").append(x.fault(1));
        text.append(" read ").append(x.read()).append(' ').append(x.type()).append('/').append(x.fields());
        text.append(" composed ").append(x.compose());
        return text.toString();
    }
}
