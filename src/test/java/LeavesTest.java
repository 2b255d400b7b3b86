import java.util.ArrayList;
import java.util.List;
import java.util.Map;
import java.util.TreeSet;

/** What a call that answers leaves as it was, promise by promise, in states of every kind. */
final class LeavesTest {
    /** So many calls are made on one object. */
    private static final int IN_A_ROW = 100;

    private record Row(String sentence, String name, Twin.Call call, String[] mayChange) {
    }

    private static List<Row> rows;
    private static String sentence;

    /** The object that tells what there is to ask for, in the state that is looked at. */
    private static Twin asked;

    public static void main(String[] args) {
        States.all().forEach(LeavesTest::check);
        errorsStay(0);
        errorsStay(1);
        Check.end();
    }

    /** What a wrong load told stays up to the next load of the same circuit. */
    private static void errorsStay(int circuit) {
        Check.sentence("4 the error of the latest load of it (0 before, or if it was right), 5 its place (0 without one)");
        Twin twin = Check.twin(States.GAPS, States.XOR);
        Check.due("a wrong load", 7, () -> Check.load(twin, circuit, "aag 9 1 0 1 0\n2\n18\n"));
        dueError(twin, circuit, "the load");
        twin.feed(8, -1L);
        dueError(twin, circuit, "feed");
        twin.write(circuit, true, true);
        dueError(twin, circuit, "write");
        Check.due("a wrong load of the other", 1, () -> twin.load(1 - circuit));
        dueError(twin, circuit, "a wrong load of the other");
        Check.due("a right load of the other", 0, () -> Check.load(twin, 1 - circuit, States.ONE));
        dueError(twin, circuit, "a right load of the other");
        Check.due("a right load", 0, () -> Check.load(twin, circuit, States.ONE));
        Check.due("no error", 0, () -> twin.look(circuit, 4));
        Check.due("no place", 0, () -> twin.look(circuit, 5));
    }

    private static void dueError(Twin twin, int circuit, String behind) {
        Check.due("the error behind " + behind, 7, () -> twin.look(circuit, 4));
        Check.due("its place behind " + behind, 9, () -> twin.look(circuit, 5));
    }

    private static void check(String name, States.Maker maker) {
        asked = maker.make();
        rows = new ArrayList<>();
        for (int circuit = 0; circuit < 2; circuit++) {
            addLiterals(circuit);
            addFunctions(circuit);
            addLooks(circuit);
        }
        addBoth();
        addOut();
        Map<String, String> before = State.of(maker.make());
        checkInRows(name, maker, before);
        addFeeds();
        addLoads(maker);
        addWrites();
        for (Row row : rows) {
            Twin twin = maker.make();
            Check.sentence(row.sentence);
            dueAnswer(name, row, twin);
            Check.due(name + ": what changed by " + row.name, "nothing",
                    () -> State.difference(before, State.of(twin), row.mayChange));
        }
    }

    private static void checkInRows(String name, States.Maker maker, Map<String, String> before) {
        Check.sentence("Nothing is promised beyond the answers and state changes described above");
        for (int from = 0; from < rows.size(); from += IN_A_ROW) {
            Twin twin = maker.make();
            for (Row row : rows.subList(from, Math.min(from + IN_A_ROW, rows.size()))) {
                dueAnswer(name, row, twin);
            }
            Check.due(name + ": what changed by many questions", "nothing", () -> State.difference(before, State.of(twin)));
        }
    }

    private static void dueAnswer(String name, Row row, Twin twin) {
        Check.due(name + ": an answer of " + row.name, false, () -> Check.answerOf(() -> twin.last(row.call)) instanceof String);
    }

    private static void add(String name, Twin.Call call, String... mayChange) {
        rows.add(new Row(sentence, name, call, mayChange));
    }

    private static void addFeeds() {
        sentence = "Promise 2: The n lowest bytes of v, lowest first, come behind the tape";
        for (int n = 1; n <= 8; n++) {
            int fed = n;
            add("feed " + n, twin -> twin.feed(fed, -1L), State.TAPE);
        }
    }

    private static void addLoads(States.Maker maker) {
        sentence = "Promise 3: The tape, which is used up, is read as a circuit: 0; or its error, and the circuit stays";
        for (int circuit = 0; circuit < 2; circuit++) {
            int c = circuit;
            String error = c == 0 ? State.FIRST_ERROR : State.SECOND_ERROR;
            if (maker.make().load(c) == 0) {
                add("a right load of " + c, twin -> twin.load(c), c == 0 ? State.FIRST : State.SECOND, error, State.BOTH, State.TAPE);
            } else {
                add("a wrong load of " + c, twin -> twin.load(c), error, State.TAPE);
            }
        }
    }

    private static void addWrites() {
        sentence = "Promise 17: OUT becomes the circuit's text";
        for (int circuit = 0; circuit < 2; circuit++) {
            int c = circuit;
            for (int form = 0; form < 4; form++) {
                boolean binary = form % 2 == 0;
                boolean reduced = form < 2;
                add("write(" + c + ", " + binary + ", " + reduced + ")", twin -> twin.write(c, binary, reduced), State.OUT);
            }
        }
    }

    private static void addLiterals(int c) {
        sentence = "Promise 4: Input k's, gate k's (in the order of the text), or output k's literal (what 0, 1, 2).";
        for (int what = 0; what < 3; what++) {
            int w = what;
            int count = asked.look(c, what);
            if (count > 0) {
                add("literal(" + c + ", " + w + ", 0)", twin -> twin.literal(c, w, 0));
                add("literal(" + c + ", " + w + ", last)", twin -> twin.literal(c, w, count - 1));
            }
        }
    }

    /** The two constants, and of inputs, gates and outputs the last one with its inverse. */
    private static TreeSet<Integer> someLiterals(int circuit) {
        TreeSet<Integer> some = new TreeSet<>(List.of(0, 1));
        for (int what = 0; what < 3; what++) {
            int count = asked.look(circuit, what);
            if (count > 0) {
                int literal = asked.literal(circuit, what, count - 1);
                some.add(literal);
                some.add(literal ^ 1);
            }
        }
        return some;
    }

    private static void addFunctions(int c) {
        int inputs = asked.look(c, 0);
        int last = (1 << inputs) - 1;
        for (int literal : someLiterals(c)) {
            String of = " of " + c + ", " + literal;
            sentence = "Promise 5: The value (0, 1) of a literal at a vector.";
            add("value" + of, twin -> twin.value(c, literal, last));
            sentence = "Promise 8: The least vector, from itself on, at which the literal is 1; -1 without one.";
            add("least" + of, twin -> twin.least(c, literal, 0));
            sentence = "Promise 9: The greatest vector at which the literal is 1; -1 without one.";
            add("greatest" + of, twin -> twin.greatest(c, literal));
            sentence = "Promise 11: Whether the second literal is 1 wherever the first one is.";
            add("implies" + of, twin -> twin.implies(c, literal, literal ^ 1));
            sentence = "Promise 14: A literal's leader.";
            add("leader" + of, twin -> twin.leader(c, literal));
            if (inputs > 0) {
                sentence = "Promise 12: Whether a literal's function depends on input k.";
                add("depends" + of, twin -> twin.depends(c, literal, inputs - 1));
                sentence = "Promise 13: Whether a literal's function is never less when input k becomes 1";
                add("rises" + of, twin -> twin.rises(c, literal, 0));
            }
        }
        sentence = "Promise 15: How many different functions";
        add("functions of " + c, twin -> twin.functions(c));
    }

    private static void addLooks(int c) {
        sentence = "Promise 19: Of a circuit: 0 inputs, 1 gates, 2 outputs, 3 M";
        for (int what = 0; what <= 8; what++) {
            int w = what;
            add("look(" + c + ", " + w + ")", twin -> twin.look(c, w));
        }
    }

    private static void addBoth() {
        if (asked.look(0, 0) != asked.look(1, 0)) {
            return;
        }
        sentence = "Promise 6: -2 when the circuits have not as many outputs; else the least output whose functions differ";
        add("compare", twin -> twin.compare());
        sentence = "Promise 7: The least vector at which an output of both is not the same; -1 without one.";
        int outputs = Math.min(asked.look(0, 2), asked.look(1, 2));
        for (int k = 0; k < outputs; k++) {
            int output = k;
            add("witness " + output, twin -> twin.witness(output));
        }
        sentence = "Promise 10: Whether literal, of circuit 0, and other, of circuit 1, have the same function";
        for (int literal : someLiterals(0)) {
            for (int other : someLiterals(1)) {
                add("same(" + literal + ", " + other + ")", twin -> twin.same(literal, other));
            }
        }
        sentence = "Promise 16: The same of both circuits together.";
        add("allFunctions", twin -> twin.allFunctions());
    }

    private static void addOut() {
        sentence = "Promise 18: Eight bytes of OUT from k on, lowest first (0 behind its end).";
        int length = asked.look(0, 8);
        for (int k : new int[] {0, length / 2, length - 1}) {
            if (length > 0) {
                add("out " + k, twin -> twin.out(k));
            }
        }
    }
}
