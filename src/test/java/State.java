import java.util.ArrayList;
import java.util.Arrays;
import java.util.LinkedHashMap;
import java.util.List;
import java.util.Map;

/**
 * What can be seen of an object, part by part: each circuit (of many literals the first and the last ones), the error
 * of its latest load, both circuits together, OUT, and the tape, whose text is seen by loading it.
 */
final class State {
    static final String FIRST = "circuit 0";
    static final String SECOND = "circuit 1";
    static final String FIRST_ERROR = "error of circuit 0";
    static final String SECOND_ERROR = "error of circuit 1";
    static final String BOTH = "both circuits";
    static final String OUT = "OUT";
    static final String TAPE = "tape";

    private final Map<String, String> parts = new LinkedHashMap<>();
    private final StringBuilder seen = new StringBuilder();
    private final Twin twin;

    private State(Twin twin) {
        this.twin = twin;
    }

    /** All parts by their names; the tape is used up by that. */
    static Map<String, String> of(Twin twin) {
        State state = new State(twin);
        // the errors and OUT's length first, so that no call before this could have changed them in the same way
        state.seeLooks(0, 4, 5);
        state.endPart(FIRST_ERROR);
        state.seeLooks(1, 4, 5);
        state.endPart(SECOND_ERROR);
        state.seeLooks(0, 8);
        state.seeLooks(1, 8);
        state.add("out", () -> Check.outText(twin));
        state.endPart(OUT);
        state.seeCircuit(0);
        state.endPart(FIRST);
        state.seeCircuit(1);
        state.endPart(SECOND);
        state.seeBoth();
        state.endPart(BOTH);
        state.seeTape();
        state.endPart(TAPE);
        return state.parts;
    }

    /** The first thing that is not the same, but in parts that may change; "nothing" without one. */
    static String difference(Map<String, String> before, Map<String, String> behind, String... mayChange) {
        for (String part : before.keySet()) {
            if (!Arrays.asList(mayChange).contains(part) && !before.get(part).equals(behind.get(part))) {
                return part + ": " + firstDifference(before.get(part).split("\t"), behind.get(part).split("\t"));
            }
        }
        return "nothing";
    }

    private static String firstDifference(String[] one, String[] two) {
        for (int i = 0; i < Math.min(one.length, two.length); i++) {
            if (!one[i].equals(two[i])) {
                return one[i] + " became " + two[i];
            }
        }
        return "how much there is";
    }

    private void endPart(String name) {
        parts.put(name, seen.toString());
        seen.setLength(0);
    }

    private void add(String name, Check.Call call) {
        seen.append(name).append('=').append(Check.answerOf(call)).append('\t');
    }

    private void seeLooks(int circuit, int... whats) {
        for (int what : whats) {
            add("look " + what, () -> twin.look(circuit, what));
        }
    }

    private void seeBoth() {
        add("compare", () -> twin.compare());
        add("witness", () -> twin.witness(0));
        add("allFunctions", () -> twin.allFunctions());
        add("same", () -> twin.same(1, 1));
    }

    private void seeTape() {
        seeLooks(0, 7);
        seeLooks(1, 7);
        add("load", () -> twin.load(1));
        seeLooks(1, 4, 5, 7);
        if (twin.look(1, 4) == 0) {
            seeCircuit(1);
        }
    }

    private void seeCircuit(int circuit) {
        seeLooks(circuit, 0, 1, 2, 3, 6);
        add("functions", () -> twin.functions(circuit));
        List<Integer> literals = new ArrayList<>();
        for (int what = 0; what < 3; what++) {
            int count = twin.look(circuit, what);
            for (int k = 0; k < count; k++) {
                if (k < 3 || k >= count - 3) {
                    literals.add(twin.literal(circuit, what, k));
                }
            }
        }
        int last = twin.look(circuit, 0) - 1;
        for (int literal : literals) {
            add("leader of " + literal, () -> twin.leader(circuit, literal));
            add("least", () -> twin.least(circuit, literal, 0));
            add("greatest", () -> twin.greatest(circuit, literal));
            add("rises", () -> twin.rises(circuit, literal, 0));
            add("rises", () -> twin.rises(circuit, literal, last));
            for (int other : literals) {
                add("implies " + other, () -> twin.implies(circuit, literal, other));
            }
        }
    }
}
