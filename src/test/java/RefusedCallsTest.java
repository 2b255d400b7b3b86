import java.util.ArrayList;
import java.util.List;

/** Every call that throws, in states of every kind: what it throws, and that all that can be seen is as before. */
final class RefusedCallsTest {
    private static final String XOR = "aag 6 2 0 2 4\n2\n4\n11\n13\n6 2 5\n8 3 4\n10 7 9\n12 3 5\n";
    private static final String GAPS = "aag 7 2 0 3 2\n10\n4\n6\n13\n0\n6 10 4\n12 6 11\n";
    private static final String ONE = "aig 2 1 0 1 1\n5\n\1\1";

    private static final int[] FAR = {-1, Integer.MIN_VALUE, Integer.MAX_VALUE};

    interface Maker {
        CircuitTwin make();
    }

    interface Refused {
        Object on(CircuitTwin twin);
    }

    private record Row(String name, String exception, Refused call) {
    }

    private static List<Row> rows;

    public static void main(String[] args) {
        Check.sentence("Of several exceptions that hold the one listed first is thrown; a call that throws changes nothing.");
        check("new", RefusedCallsTest::newOne);
        check("matching", RefusedCallsTest::matching);
        check("behind errors", RefusedCallsTest::behindErrors);
        check("not matching", RefusedCallsTest::notMatching);
        check("full", RefusedCallsTest::full);
        Check.end();
    }

    private static CircuitTwin newOne() {
        return new CircuitTwin();
    }

    /** With a text on the tape and another in OUT. */
    private static CircuitTwin matching() {
        CircuitTwin twin = Check.twin(XOR, GAPS);
        twin.write(0, true, false);
        Check.feed(twin, Check.bytes(ONE));
        return twin;
    }

    /** The latest loads of both circuits were wrong; the tape has the beginning of a text. */
    private static CircuitTwin behindErrors() {
        CircuitTwin twin = Check.twin(GAPS, XOR);
        Check.load(twin, 0, "aag 9 1 0 1 0\n2\n18\n");
        Check.load(twin, 1, "aag 0 0");
        twin.write(1, false, true);
        Check.feed(twin, Check.bytes("aag 3 2 0 1 1\n2\n4\n6\n6 "));
        return twin;
    }

    private static CircuitTwin notMatching() {
        CircuitTwin twin = Check.twin(XOR, ONE);
        twin.write(1, false, false);
        Check.feed(twin, Check.bytes(GAPS + "c\n"));
        return twin;
    }

    /** Every bound of the document at once; it takes more calls than the document's 512 to come here. */
    private static CircuitTwin full() {
        String text = Texts.full();
        CircuitTwin twin = Check.twin(text, text);
        twin.write(0, false, false);
        Check.feed(twin, Check.bytes(text + "c\n" + "z".repeat(8192 - text.length() - 2)));
        return twin;
    }

    private static void check(String name, Maker maker) {
        CircuitTwin asked = maker.make();
        rows = new ArrayList<>();
        addFeeds(asked);
        for (int circuit : new int[] {-1, 2, Integer.MIN_VALUE, Integer.MAX_VALUE}) {
            addNoCircuit(circuit);
        }
        for (int circuit = 0; circuit < 2; circuit++) {
            addElements(asked, circuit);
            addLiterals(asked, circuit);
        }
        addBoth(asked);
        addOuts(asked);
        String before = State.of(maker.make());
        for (Row row : rows) {
            CircuitTwin twin = maker.make();
            Check.due(name + ": " + row.name, row.exception, () -> row.call.on(twin));
            Check.due(name + ": the state behind " + row.name, before, () -> State.of(twin));
        }
        // all of them on one object, one behind the other
        CircuitTwin twin = maker.make();
        for (Row row : rows) {
            Check.due(name + ": in a row, " + row.name, row.exception, () -> row.call.on(twin));
        }
        Check.due(name + ": the state behind all", before, () -> State.of(twin));
    }

    private static void add(String name, String exception, Refused call) {
        rows.add(new Row(name, exception, call));
    }

    private static void addFeeds(CircuitTwin asked) {
        for (int n : new int[] {0, 9, -1, Integer.MIN_VALUE, Integer.MAX_VALUE}) {
            add("feed " + n, Check.ARGUMENT, twin -> twin.feed(n, -1L));
        }
        for (int n = 1; n <= 8 && asked.look(0, 7) == 8192; n++) {
            int fed = n;
            add("feed " + n, Check.STATE, twin -> twin.feed(fed, -1L));
        }
    }

    private static void addNoCircuit(int c) {
        add("load " + c, Check.ARGUMENT, twin -> twin.load(c));
        add("literal of " + c, Check.ARGUMENT, twin -> twin.literal(c, 0, 0));
        add("literal of " + c + " and no what", Check.ARGUMENT, twin -> twin.literal(c, 9, -1));
        add("value of " + c, Check.ARGUMENT, twin -> twin.value(c, 0, 0));
        add("least of " + c, Check.ARGUMENT, twin -> twin.least(c, 0, 0));
        add("greatest of " + c, Check.ARGUMENT, twin -> twin.greatest(c, 0));
        add("implies of " + c, Check.ARGUMENT, twin -> twin.implies(c, 0, 0));
        add("depends of " + c, Check.ARGUMENT, twin -> twin.depends(c, 0, -1));
        add("rises of " + c, Check.ARGUMENT, twin -> twin.rises(c, 0, -1));
        add("leader of " + c, Check.ARGUMENT, twin -> twin.leader(c, 0));
        add("functions of " + c, Check.ARGUMENT, twin -> twin.functions(c));
        for (int form = 0; form < 4; form++) {
            boolean binary = form % 2 == 0;
            boolean reduced = form < 2;
            add("write of " + c, Check.ARGUMENT, twin -> twin.write(c, binary, reduced));
        }
        for (int what = 0; what <= 9; what++) {
            int asked = what;
            add("look " + what + " of " + c, Check.ARGUMENT, twin -> twin.look(c, asked));
        }
    }

    private static void addElements(CircuitTwin asked, int c) {
        for (int what = 0; what < 3; what++) {
            int w = what;
            for (int k : with(asked.look(c, what))) {
                add("literal(" + c + ", " + w + ", " + k + ")", Check.ELEMENT, twin -> twin.literal(c, w, k));
            }
        }
        for (int k : with(asked.look(c, 0))) {
            add("depends of " + c + " on " + k, Check.ELEMENT, twin -> twin.depends(c, 1, k));
            add("rises of " + c + " with " + k, Check.ELEMENT, twin -> twin.rises(c, 1, k));
        }
        for (int what : with(3)) {
            add("literal(" + c + ", " + what + ", 0)", Check.ELEMENT, twin -> twin.literal(c, what, 0));
        }
        for (int what : with(9)) {
            add("look(" + c + ", " + what + ")", Check.ARGUMENT, twin -> twin.look(c, what));
        }
        for (int x : with(1 << asked.look(c, 0))) {
            add("value of " + c + " at " + x, Check.ARGUMENT, twin -> twin.value(c, 1, x));
            add("least of " + c + " from " + x, Check.ARGUMENT, twin -> twin.least(c, 1, x));
        }
    }

    private static void addLiterals(CircuitTwin asked, int c) {
        int[] literals = with(2 * asked.look(c, 3) + 2);
        // in place of the second one beyond the bound one within it whose variable stands for nothing, if there is one
        for (int literal = 0; literal < literals[0]; literal++) {
            int within = literal;
            literals[1] = Check.ARGUMENT.equals(Check.answerOf(() -> asked.leader(c, within))) ? within : literals[1];
        }
        for (int literal : literals) {
            String of = " of " + c + " and literal " + literal;
            add("value" + of, Check.ARGUMENT, twin -> twin.value(c, literal, 0));
            add("least" + of, Check.ARGUMENT, twin -> twin.least(c, literal, 0));
            add("greatest" + of, Check.ARGUMENT, twin -> twin.greatest(c, literal));
            add("implies" + of, Check.ARGUMENT, twin -> twin.implies(c, literal, 0));
            add("implies, the second" + of, Check.ARGUMENT, twin -> twin.implies(c, 0, literal));
            add("depends" + of, Check.ARGUMENT, twin -> twin.depends(c, literal, 0));
            add("depends on no input" + of, Check.ARGUMENT, twin -> twin.depends(c, literal, -1));
            add("rises" + of, Check.ARGUMENT, twin -> twin.rises(c, literal, 0));
            add("rises with no input" + of, Check.ARGUMENT, twin -> twin.rises(c, literal, -1));
            add("leader" + of, Check.ARGUMENT, twin -> twin.leader(c, literal));
            add("same" + of, Check.ARGUMENT, twin -> c == 0 ? twin.same(literal, 0) : twin.same(0, literal));
        }
    }

    private static void addBoth(CircuitTwin asked) {
        boolean match = asked.look(0, 0) == asked.look(1, 0);
        for (int output : with(Math.min(asked.look(0, 2), asked.look(1, 2)))) {
            add("witness " + output, match ? Check.ELEMENT : Check.STATE, twin -> twin.witness(output));
        }
        if (!match) {
            add("compare", Check.STATE, twin -> twin.compare());
            add("witness 0", Check.STATE, twin -> twin.witness(0));
            add("same", Check.STATE, twin -> twin.same(0, 0));
            add("allFunctions", Check.STATE, twin -> twin.allFunctions());
        }
    }

    private static void addOuts(CircuitTwin asked) {
        for (int k : with(asked.look(0, 8))) {
            add("out " + k, Check.ELEMENT, twin -> twin.out(k));
        }
        add("out far before", Check.ELEMENT, twin -> twin.out(-8));
    }

    /** The first one beyond a bound, and those that are beyond any. */
    private static int[] with(int bound) {
        return new int[] {bound, bound + 1, FAR[0], FAR[1], FAR[2]};
    }
}
