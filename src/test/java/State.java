import java.util.ArrayList;
import java.util.List;

/** What can be seen of an object, as one text: every look, OUT whole, and of many literals the first and the last ones. */
final class State {
    private final StringBuilder seen = new StringBuilder();
    private final CircuitTwin twin;

    private State(CircuitTwin twin) {
        this.twin = twin;
    }

    /** What can be seen, then the tape's text by loading it, and what can be seen behind that. */
    static String of(CircuitTwin twin) {
        State state = new State(twin);
        state.see();
        state.add("load", () -> twin.load(1));
        state.see();
        return state.seen.toString();
    }

    /** The first of all that is not the same, "nothing" without one. */
    static String difference(String before, String behind) {
        String[] one = before.split(" ");
        String[] two = behind.split(" ");
        for (int i = 0; i < Math.min(one.length, two.length); i++) {
            if (!one[i].equals(two[i])) {
                return one[i] + " became " + two[i] + " at " + i;
            }
        }
        return one.length == two.length ? "nothing" : "the length";
    }

    private void add(String name, Check.Call call) {
        seen.append(name).append('=').append(Check.answerOf(call)).append(' ');
    }

    private void see() {
        for (int c = 0; c < 2; c++) {
            int circuit = c;
            for (int what = 0; what <= 8; what++) {
                int asked = what;
                add("look" + what, () -> twin.look(circuit, asked));
            }
            seeLiterals(circuit);
            add("functions", () -> twin.functions(circuit));
        }
        add("compare", () -> twin.compare());
        add("witness", () -> twin.witness(0));
        add("allFunctions", () -> twin.allFunctions());
        add("out", () -> Check.outText(twin));
        seen.append('\n');
    }

    private void seeLiterals(int circuit) {
        List<Integer> literals = new ArrayList<>();
        for (int what = 0; what < 3; what++) {
            int count = twin.look(circuit, what);
            // of many the first and the last ones
            for (int k = 0; k < count; k++) {
                if (k < 3 || k >= count - 3) {
                    literals.add(twin.literal(circuit, what, k));
                }
            }
        }
        int inputs = twin.look(circuit, 0);
        for (int literal : literals) {
            add("leader of " + literal, () -> twin.leader(circuit, literal));
            add("least", () -> twin.least(circuit, literal, 0));
            add("greatest", () -> twin.greatest(circuit, literal));
            add("rises", () -> twin.rises(circuit, literal, 0));
            add("rises", () -> twin.rises(circuit, literal, inputs - 1));
            for (int other : literals) {
                add("implies " + other, () -> twin.implies(circuit, literal, other));
            }
        }
    }
}
