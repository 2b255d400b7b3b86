import java.util.ArrayList;
import java.util.List;

/**
 * A CircuitTwin of which nothing is asked that the document leaves free: before a 513th call a new object takes its
 * place, brought to the same state by the calls that lasted.
 */
final class Twin {
    static final int MOST_CALLS = 512;

    interface Call {
        Object on(CircuitTwin object);
    }

    private final List<Call> lasting = new ArrayList<>();
    private CircuitTwin object = new CircuitTwin();
    private int calls = 0;

    int feed(int n, long v) {
        return (int) last(twin -> twin.feed(n, v));
    }

    int load(int circuit) {
        return (int) last(twin -> twin.load(circuit));
    }

    int literal(int circuit, int what, int k) {
        return next().literal(circuit, what, k);
    }

    int value(int circuit, int literal, int vector) {
        return next().value(circuit, literal, vector);
    }

    int compare() {
        return next().compare();
    }

    int witness(int output) {
        return next().witness(output);
    }

    int least(int circuit, int literal, int from) {
        return next().least(circuit, literal, from);
    }

    int greatest(int circuit, int literal) {
        return next().greatest(circuit, literal);
    }

    int same(int literal, int other) {
        return next().same(literal, other);
    }

    boolean implies(int circuit, int literal, int other) {
        return next().implies(circuit, literal, other);
    }

    boolean depends(int circuit, int literal, int k) {
        return next().depends(circuit, literal, k);
    }

    int rises(int circuit, int literal, int k) {
        return next().rises(circuit, literal, k);
    }

    int leader(int circuit, int literal) {
        return next().leader(circuit, literal);
    }

    int functions(int circuit) {
        return next().functions(circuit);
    }

    int allFunctions() {
        return next().allFunctions();
    }

    int write(int circuit, boolean binary, boolean reduced) {
        return (int) last(twin -> twin.write(circuit, binary, reduced));
    }

    long out(int k) {
        return next().out(k);
    }

    int look(int circuit, int what) {
        return next().look(circuit, what);
    }

    /** A call that a new object will have behind it too, whatever it answers or throws. */
    Object last(Call call) {
        CircuitTwin asked = next();
        lasting.add(call);
        return call.on(asked);
    }

    int callsLeft() {
        return MOST_CALLS - calls;
    }

    private CircuitTwin next() {
        if (calls == MOST_CALLS) {
            renew();
        }
        calls++;
        return object;
    }

    private void renew() {
        if (lasting.size() >= MOST_CALLS) {
            throw new AssertionError("a test wants more of one object than 512 calls");
        }
        CircuitTwin renewed = new CircuitTwin();
        for (Call call : lasting) {
            Check.answerOf(() -> call.on(renewed));
        }
        object = renewed;
        calls = lasting.size();
    }
}
