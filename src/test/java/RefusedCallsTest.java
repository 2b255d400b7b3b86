import java.util.ArrayList;
import java.util.List;
import java.util.Map;

/**
 * The sentence of each promise that begins with 'Throws', in states of every kind: what is thrown just beyond each
 * bound and far beyond it, and that what State sees of the object behind that is as before.
 */
final class RefusedCallsTest {
    private static final int[] NO_CIRCUITS = {-1, 2, Integer.MIN_VALUE, Integer.MAX_VALUE};

    /** So many refused calls are made on one object. */
    private static final int IN_A_ROW = 100;

    interface OfCircuit {
        Object on(CircuitTwin twin, int circuit);
    }

    interface OfLiteral {
        Object on(CircuitTwin twin, int circuit, int literal);
    }

    private record Row(String sentence, String name, String exception, Twin.Call call) {
    }

    private static List<Row> rows;
    private static String sentence;

    /** The object that tells the bounds, in the state that is looked at, and literals that neither circuit has. */
    private static Twin asked;
    private static int[][] noLiterals;

    public static void main(String[] args) {
        States.all().forEach(RefusedCallsTest::check);
        Check.end();
    }

    private static void check(String name, States.Maker maker) {
        asked = maker.make();
        noLiterals = new int[][] {noLiterals(0), noLiterals(1)};
        rows = new ArrayList<>();
        addAll();
        Map<String, String> before = State.of(maker.make());
        for (Row row : rows) {
            Twin twin = maker.make();
            Check.sentence(row.sentence);
            Check.due(name + ": " + row.name, row.exception, () -> twin.last(row.call));
            Check.due(name + ": what changed by " + row.name, "nothing", () -> State.difference(before, State.of(twin)));
        }
        Check.sentence("a call that throws changes nothing");
        for (int from = 0; from < rows.size(); from += IN_A_ROW) {
            Twin twin = maker.make();
            for (Row row : rows.subList(from, Math.min(from + IN_A_ROW, rows.size()))) {
                Check.due(name + ": in a row, " + row.name, row.exception, () -> twin.last(row.call));
            }
            Check.due(name + ": what changed by all", "nothing", () -> State.difference(before, State.of(twin)));
        }
    }

    private static void addAll() {
        feed();
        load();
        literal();
        value();
        compare();
        witness();
        least();
        greatest();
        same();
        implies();
        depends();
        rises();
        leader();
        functions();
        allFunctions();
        write();
        out();
        look();
    }

    private static void add(String name, String exception, Twin.Call call) {
        rows.add(new Row(sentence, name, exception, call));
    }

    private static void addNoCircuits(String name, OfCircuit call) {
        for (int circuit : NO_CIRCUITS) {
            add(name + " of circuit " + circuit, Check.ARGUMENT, twin -> call.on(twin, circuit));
        }
    }

    private static void addNoLiterals(String name, OfLiteral call) {
        for (int c = 0; c < 2; c++) {
            int circuit = c;
            for (int literal : noLiterals[c]) {
                add(name + " of circuit " + c + ", literal " + literal, Check.ARGUMENT, twin -> call.on(twin, circuit, literal));
            }
        }
    }

    private static int[] noLiterals(int circuit) {
        int[] literals = beyond(2 * asked.look(circuit, 3) + 2);
        // in place of the second one beyond the bound one within it whose variable stands for nothing, if there is one
        for (int literal = 0; literal < literals[0]; literal++) {
            int within = literal;
            Object answer = Check.answerOf(() -> asked.leader(circuit, within));
            literals[1] = answer.equals(Check.ARGUMENT) ? within : literals[1];
        }
        return literals;
    }

    /** The first one beyond a bound, and those that are beyond any. */
    private static int[] beyond(int bound) {
        return new int[] {bound, bound + 1, -1, Integer.MIN_VALUE, Integer.MAX_VALUE};
    }

    private static boolean match() {
        return asked.look(0, 0) == asked.look(1, 0);
    }

    private static void feed() {
        sentence = "Promise 2: Throws IllegalArgumentException when n is not 1 .. 8;";
        for (int n : new int[] {0, 9, -1, Integer.MIN_VALUE, Integer.MAX_VALUE}) {
            add("feed " + n, Check.ARGUMENT, twin -> twin.feed(n, -1L));
        }
    }

    private static void load() {
        sentence = "Promise 3: Throws IllegalArgumentException when there is no such circuit (as all calls that name one do).";
        addNoCircuits("load", (twin, c) -> twin.load(c));
    }

    private static void literal() {
        sentence = "Promise 4: Throws IllegalArgumentException (no such circuit);";
        addNoCircuits("literal", (twin, c) -> twin.literal(c, 0, 0));
        addNoCircuits("literal of no what", (twin, c) -> twin.literal(c, 3, 0));
        addNoCircuits("literal of no k", (twin, c) -> twin.literal(c, 1, -1));
        sentence = "Promise 4: NoSuchElementException when there is none, or no such what.";
        for (int circuit = 0; circuit < 2; circuit++) {
            int c = circuit;
            for (int what = 0; what < 3; what++) {
                int w = what;
                for (int k : beyond(asked.look(c, w))) {
                    add("literal(" + c + ", " + w + ", " + k + ")", Check.ELEMENT, twin -> twin.literal(c, w, k));
                }
            }
            for (int what : beyond(3)) {
                add("literal(" + c + ", " + what + ", 0)", Check.ELEMENT, twin -> twin.literal(c, what, 0));
            }
        }
    }

    private static void value() {
        sentence = "Promise 5: Throws IllegalArgumentException also when the literal is not 0 .. 2 * M + 1, or its variable stands for nothing";
        addNoCircuits("value", (twin, c) -> twin.value(c, 0, 0));
        addNoLiterals("value", (twin, c, literal) -> twin.value(c, literal, 0));
        sentence = "Promise 5: or there is no such vector.";
        for (int circuit = 0; circuit < 2; circuit++) {
            int c = circuit;
            for (int x : beyond(1 << asked.look(c, 0))) {
                add("value of " + c + " at " + x, Check.ARGUMENT, twin -> twin.value(c, 1, x));
            }
        }
    }

    private static void compare() {
        sentence = "Promise 6: Throws IllegalStateException when they don't match (as all calls do that say so).";
        if (!match()) {
            add("compare", Check.STATE, twin -> twin.compare());
        }
    }

    private static void witness() {
        sentence = "Promise 7: Throws IllegalStateException when they don't match; NoSuchElementException when not both have this output.";
        for (int output : beyond(Math.min(asked.look(0, 2), asked.look(1, 2)))) {
            add("witness " + output, match() ? Check.ELEMENT : Check.STATE, twin -> twin.witness(output));
        }
        if (!match()) {
            add("witness 0", Check.STATE, twin -> twin.witness(0));
        }
    }

    private static void least() {
        sentence = "Promise 8: Throws IllegalArgumentException also when from is no vector.";
        addNoCircuits("least", (twin, c) -> twin.least(c, 0, 0));
        addNoLiterals("least", (twin, c, literal) -> twin.least(c, literal, 0));
        for (int circuit = 0; circuit < 2; circuit++) {
            int c = circuit;
            for (int x : beyond(1 << asked.look(c, 0))) {
                add("least of " + c + " from " + x, Check.ARGUMENT, twin -> twin.least(c, 1, x));
            }
        }
    }

    private static void greatest() {
        sentence = "Promise 9: Throws IllegalArgumentException.";
        addNoCircuits("greatest", (twin, c) -> twin.greatest(c, 0));
        addNoLiterals("greatest", (twin, c, literal) -> twin.greatest(c, literal));
    }

    private static void same() {
        sentence = "Promise 10: Throws IllegalArgumentException when one of them stands for nothing; IllegalStateException when they don't match.";
        addNoLiterals("same", (twin, c, literal) -> c == 0 ? twin.same(literal, 0) : twin.same(0, literal));
        if (!match()) {
            add("same", Check.STATE, twin -> twin.same(0, 0));
        }
    }

    private static void implies() {
        sentence = "Promise 11: Throws IllegalArgumentException.";
        addNoCircuits("implies", (twin, c) -> twin.implies(c, 0, 0));
        addNoLiterals("implies, the first", (twin, c, literal) -> twin.implies(c, literal, 1));
        addNoLiterals("implies, the second", (twin, c, literal) -> twin.implies(c, 0, literal));
    }

    private static void depends() {
        sentence = "Promise 12: Throws IllegalArgumentException; NoSuchElementException when there is no such input.";
        addNoCircuits("depends", (twin, c) -> twin.depends(c, 0, 0));
        addNoCircuits("depends on no input", (twin, c) -> twin.depends(c, 0, -1));
        addNoLiterals("depends", (twin, c, literal) -> twin.depends(c, literal, 0));
        addNoLiterals("depends on no input", (twin, c, literal) -> twin.depends(c, literal, 14));
        for (int circuit = 0; circuit < 2; circuit++) {
            int c = circuit;
            for (int k : beyond(asked.look(c, 0))) {
                add("depends of " + c + " on " + k, Check.ELEMENT, twin -> twin.depends(c, 1, k));
            }
        }
    }

    private static void rises() {
        sentence = "Promise 13: Throws as depends does.";
        addNoCircuits("rises", (twin, c) -> twin.rises(c, 0, 0));
        addNoCircuits("rises with no input", (twin, c) -> twin.rises(c, 0, -1));
        addNoLiterals("rises", (twin, c, literal) -> twin.rises(c, literal, 0));
        addNoLiterals("rises with no input", (twin, c, literal) -> twin.rises(c, literal, 14));
        for (int circuit = 0; circuit < 2; circuit++) {
            int c = circuit;
            for (int k : beyond(asked.look(c, 0))) {
                add("rises of " + c + " with " + k, Check.ELEMENT, twin -> twin.rises(c, 1, k));
            }
        }
    }

    private static void leader() {
        sentence = "Promise 14: Throws IllegalArgumentException.";
        addNoCircuits("leader", (twin, c) -> twin.leader(c, 0));
        addNoLiterals("leader", (twin, c, literal) -> twin.leader(c, literal));
    }

    private static void functions() {
        sentence = "Promise 15: Throws IllegalArgumentException.";
        addNoCircuits("functions", (twin, c) -> twin.functions(c));
    }

    private static void allFunctions() {
        sentence = "Promise 16: Throws IllegalStateException when they don't match.";
        if (!match()) {
            add("allFunctions", Check.STATE, twin -> twin.allFunctions());
        }
    }

    private static void write() {
        sentence = "Promise 17: Throws IllegalArgumentException.";
        for (int form = 0; form < 4; form++) {
            boolean binary = form % 2 == 0;
            boolean reduced = form < 2;
            addNoCircuits("write", (twin, c) -> twin.write(c, binary, reduced));
        }
    }

    private static void out() {
        sentence = "Promise 18: Throws NoSuchElementException when there is no byte k.";
        for (int k : beyond(asked.look(0, 8))) {
            add("out " + k, Check.ELEMENT, twin -> twin.out(k));
        }
        add("out eight before", Check.ELEMENT, twin -> twin.out(-8));
    }

    private static void look() {
        sentence = "Promise 19: Throws IllegalArgumentException also for another what (when there is no such circuit for all of them).";
        for (int what = -1; what <= 9; what++) {
            int w = what;
            addNoCircuits("look " + w, (twin, c) -> twin.look(c, w));
        }
        for (int circuit = 0; circuit < 2; circuit++) {
            int c = circuit;
            for (int what : beyond(9)) {
                add("look(" + c + ", " + what + ")", Check.ARGUMENT, twin -> twin.look(c, what));
            }
        }
    }
}
