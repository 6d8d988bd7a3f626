import java.util.ArrayList;
import java.util.List;

/**
 * A WhilePress that is used for 512 calls at most, as the document wants it: when they are spent, a new object goes
 * through the same changes, and the call is made on that one.
 */
final class Counted {
    private static final int MOST = 512;

    private interface Change {
        int on(WhilePress object);
    }

    private WhilePress object = new WhilePress();
    private int calls;
    private final List<Change> changes = new ArrayList<>();

    private WhilePress forOneCall() {
        if (calls == MOST) {
            object = new WhilePress();
            for (Change change : changes) {
                change.on(object);
            }
            calls = changes.size();
        }
        calls++;
        if (calls > MOST) {
            throw new AssertionError("a test needs more than 512 calls to come to its state");
        }
        return object;
    }

    /** A call that throws is not kept: it changes nothing. */
    private int change(Change change) {
        int answer = change.on(forOneCall());
        changes.add(change);
        return answer;
    }

    int feed(long row, int n) {
        return change(x -> x.feed(row, n));
    }

    int read() {
        return change(x -> x.read());
    }

    int place() {
        return forOneCall().place();
    }

    int lower() {
        return change(x -> x.lower());
    }

    int improve() {
        return change(x -> x.improve());
    }

    int code(boolean improved, int i, int what) {
        return forOneCall().code(improved, i, what);
    }

    boolean isKnown(int i, int register) {
        return forOneCall().isKnown(i, register);
    }

    int known(int i, int register) {
        return forOneCall().known(i, register);
    }

    boolean isLive(boolean improved, int i, int register) {
        return forOneCall().isLive(improved, i, register);
    }

    int colour(int register) {
        return forOneCall().colour(register);
    }

    int input(int v) {
        return change(x -> x.input(v));
    }

    int clear() {
        return change(x -> x.clear());
    }

    int run(int which, int fuel) {
        return change(x -> x.run(which, fuel));
    }

    int printed(int i) {
        return forOneCall().printed(i);
    }

    int told(int what) {
        return forOneCall().told(what);
    }
}
