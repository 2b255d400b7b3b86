import java.util.Set;

/** Promises 1 to 16: every argument at its bounds, just beyond them, and the least and greatest int. */
final class CallBoundsTest {
    private static final String NONE = "aag 0 0 0 0 0\n";

    /** Inputs on variables 5 and 2, gates on 3 (their AND) and 6 (never 1); 1, 4 and 7 stand for nothing. */
    private static final String GAPS = "aag 7 2 0 3 2\n10\n4\n6\n13\n0\n6 10 4\n12 6 11\n";

    private static final int[] NO_CIRCUITS = {-1, 2, 3, -2, 256, 65536, Integer.MAX_VALUE, Integer.MIN_VALUE, Integer.MIN_VALUE + 1};

    public static void main(String[] args) {
        feedLengths();
        feedBytes();
        longestTape();
        tapeUsedUp();
        circuits();
        firstListed();
        loadTellsErrors();
        literalOfCircuit();
        literalsOfCalls();
        vectorsOfCalls();
        compareAnswers();
        witnessAnswers();
        leastAnswers();
        greatestAnswers();
        sameAnswers();
        impliesAnswers();
        inputsOfCalls();
        risesAnswers();
        functionCounts();
        Check.end();
    }

    private static void feedLengths() {
        Check.sentence("Throws IllegalArgumentException when n is not 1 .. 8");
        Twin twin = new Twin();
        for (int n : new int[] {0, 9, -1, 10, 16, -8, 257, 65537, Integer.MIN_VALUE, Integer.MIN_VALUE + 1, Integer.MAX_VALUE}) {
            Check.due("feed " + n, Check.ARGUMENT, () -> twin.feed(n, -1L));
            Check.due("the tape behind feed " + n, 0, () -> twin.look(0, 7));
        }
        int due = 0;
        for (int n = 1; n <= 8; n++) {
            int fed = n;
            due += n;
            Check.due("feed " + n, due, () -> twin.feed(fed, Long.MIN_VALUE));
        }
    }

    /** What is fed is told by the place of an error, or by its being none. */
    private static void feedBytes() {
        Check.sentence("The n lowest bytes of v, lowest first, come behind the tape: how many it has.");
        String text = "aag 0 0 0 0 0\nc\n";
        for (int n = 1; n <= 8; n++) {
            Twin twin = new Twin();
            for (int at = 0; at < text.length(); at += n) {
                int count = Math.min(n, text.length() - at);
                int due = at + count;
                // the bytes above are those of a wrong text
                long v = count == 8 ? 0 : -1L << (8 * count);
                for (int i = 0; i < count; i++) {
                    v |= (long) text.charAt(at + i) << (8 * i);
                }
                long fed = v;
                Check.due("feed " + count, due, () -> twin.feed(count, fed));
            }
            Check.due("load of what was fed by " + n, 0, () -> twin.load(0));
        }
        for (long v : new long[] {0, -1, Long.MIN_VALUE, Long.MAX_VALUE}) {
            for (int n = 1; n <= 8; n++) {
                feedSteps(v, n);
            }
        }
    }

    /** Bytes that are the steps of the last of 130 gates, and what follows them. */
    private static void feedSteps(long v, int n) {
        Twin twin = new Twin();
        Check.feed(twin, Check.bytes("aig 130 0 0 0 130\n" + "\2\0".repeat(129)));
        Check.due("feed " + n, 276 + n, () -> twin.feed(n, v));
        Model model = Model.read("aig 130 0 0 0 130\n" + "\2\0".repeat(129) + bytesOf(v, n));
        Check.due("load with " + n + " bytes of " + v, model.error, () -> twin.load(0));
        Check.due("its place", model.place, () -> twin.look(0, 5));
    }

    private static String bytesOf(long v, int n) {
        StringBuilder text = new StringBuilder();
        for (int i = 0; i < n; i++) {
            text.append((char) ((v >>> (8 * i)) & 255));
        }
        return text.toString();
    }

    private static void longestTape() {
        Check.sentence("The TAPE has at most 8192 bytes, none at first");
        Check.due("a new tape", 0, () -> new Twin().look(1, 7));
        // as many as 512 calls can bring
        Twin twin = new Twin();
        for (int call = 1; call <= Twin.MOST_CALLS; call++) {
            Check.due("feed number " + call, 8 * call, () -> twin.feed(8, -1L));
        }
    }

    private static void tapeUsedUp() {
        Check.sentence("The tape, which is used up, is read as a circuit");
        String full = GAPS + "c\n" + "z".repeat(1600);
        for (String text : new String[] {full, "x".repeat(1600), "", "x", GAPS}) {
            Twin twin = new Twin();
            Check.feed(twin, Check.bytes(text));
            Check.due("look 7", text.length(), () -> twin.look(0, 7));
            Check.due("load", text.startsWith("aag") ? 0 : 1, () -> twin.load(0));
            Check.due("look 7 behind it", 0, () -> twin.look(0, 7));
            Check.due("an empty tape is loaded", 1, () -> twin.load(1));
            Check.due("a new text", 0, () -> Check.load(twin, 1, NONE));
            Check.due("a long tape again", 0, () -> Check.load(twin, 1, full));
            Check.due("its M", 7, () -> twin.look(1, 3));
        }
    }

    private static void circuits() {
        Check.sentence("Throws IllegalArgumentException when there is no such circuit (as all calls that name one do).");
        Twin twin = Check.twin(GAPS, GAPS);
        for (int circuit : NO_CIRCUITS) {
            String of = " of circuit " + circuit;
            Check.due("load" + of, Check.ARGUMENT, () -> twin.load(circuit));
            Check.due("literal" + of, Check.ARGUMENT, () -> twin.literal(circuit, 0, 0));
            Check.due("literal of no what" + of, Check.ARGUMENT, () -> twin.literal(circuit, 3, -1));
            Check.due("value" + of, Check.ARGUMENT, () -> twin.value(circuit, 0, 0));
            Check.due("least" + of, Check.ARGUMENT, () -> twin.least(circuit, 0, 0));
            Check.due("greatest" + of, Check.ARGUMENT, () -> twin.greatest(circuit, 0));
            Check.due("implies" + of, Check.ARGUMENT, () -> twin.implies(circuit, 0, 0));
            Check.due("depends" + of, Check.ARGUMENT, () -> twin.depends(circuit, 0, 0));
            Check.due("depends on no input" + of, Check.ARGUMENT, () -> twin.depends(circuit, 0, -1));
            Check.due("rises" + of, Check.ARGUMENT, () -> twin.rises(circuit, 0, 0));
            Check.due("rises with no input" + of, Check.ARGUMENT, () -> twin.rises(circuit, 0, 2));
            Check.due("leader" + of, Check.ARGUMENT, () -> twin.leader(circuit, 0));
            Check.due("functions" + of, Check.ARGUMENT, () -> twin.functions(circuit));
            Check.due("write" + of, Check.ARGUMENT, () -> twin.write(circuit, true, true));
            for (int what = -1; what <= 9; what++) {
                int asked = what;
                Check.due("look " + what + of, Check.ARGUMENT, () -> twin.look(circuit, asked));
            }
        }
    }

    private static void firstListed() {
        Check.sentence("Of several exceptions that hold the one listed first is thrown");
        Twin twin = Check.twin(GAPS, "aag 9 1 0 1 0\n18\n18\n");
        Check.due("literal: no circuit, no what", Check.ARGUMENT, () -> twin.literal(2, 3, 0));
        Check.due("literal: no circuit, no input", Check.ARGUMENT, () -> twin.literal(-1, 0, 2));
        Check.due("literal: no what", Check.ELEMENT, () -> twin.literal(0, 3, 0));
        Check.due("witness: no match, no output", Check.STATE, () -> twin.witness(-1));
        Check.due("witness: no match, no output of one", Check.STATE, () -> twin.witness(2));
        Check.due("same: no literal, no match", Check.ARGUMENT, () -> twin.same(2, 18));
        Check.due("same: no other, no match", Check.ARGUMENT, () -> twin.same(10, 2));
        Check.due("same: no match", Check.STATE, () -> twin.same(10, 18));
        Check.due("depends: no circuit, no input", Check.ARGUMENT, () -> twin.depends(2, 0, 14));
        Check.due("depends: no literal, no input", Check.ARGUMENT, () -> twin.depends(0, 2, 2));
        Check.due("depends: no input", Check.ELEMENT, () -> twin.depends(0, 10, 2));
        Check.due("rises: no circuit, no input", Check.ARGUMENT, () -> twin.rises(2, 0, 14));
        Check.due("rises: no literal, no input", Check.ARGUMENT, () -> twin.rises(0, 2, 2));
        Check.due("rises: no input", Check.ELEMENT, () -> twin.rises(0, 10, 2));
    }

    private static void loadTellsErrors() {
        Check.sentence("or its error, and the circuit stays (look 4 and 5 tell it, 0 and 0 when it was right)");
        String[] wrong = {"", "aag 1", "aag 1 1 1 0 0\n", "aag 0 1 0 0 0\n", "aag 4 1 0 1 1\n2\n9\n8 2 2", "aag 4 1 0 1 1\n2\n9\n9 2 2\n",
            "aag 4 1 0 1 1\n2\n8\n8 4 2\n", "aag 4 1 0 1 1\n2\n8\n8 8 2\n"};
        int[] places = {0, 5, 0, 0, 23, 18, 2, 4};
        for (int i = 0; i < wrong.length; i++) {
            int error = i + 1;
            int place = places[i];
            String text = wrong[i];
            Twin twin = new Twin();
            Check.due("load into a new one", error, () -> Check.load(twin, 1, text));
            Check.due("look 4", error, () -> twin.look(1, 4));
            Check.due("look 5", place, () -> twin.look(1, 5));
            Check.due("look 4 of the other", 0, () -> twin.look(0, 4));
            Check.due("M stays", 0, () -> twin.look(1, 3));
            Check.due("functions stay", 1, () -> twin.functions(1));
            Check.due("a right one", 0, () -> Check.load(twin, 1, GAPS));
            Check.due("look 4 of a right one", 0, () -> twin.look(1, 4));
            Check.due("look 5 of a right one", 0, () -> twin.look(1, 5));
            Check.due("wrong again", error, () -> Check.load(twin, 1, text));
            Check.due("look 4 again", error, () -> twin.look(1, 4));
            Check.due("look 5 again", place, () -> twin.look(1, 5));
            staysAsGaps(twin);
        }
    }

    private static void staysAsGaps(Twin twin) {
        int[] looks = {2, 2, 3, 7};
        for (int what = 0; what < looks.length; what++) {
            int asked = what;
            Check.due("look " + what + " stays", looks[what], () -> twin.look(1, asked));
        }
        Check.due("depth stays", 2, () -> twin.look(1, 6));
        Check.due("values stay", 3, () -> twin.least(1, 6, 0));
        Check.due("leaders stay", 0, () -> twin.leader(1, 12));
        Check.due("functions stay", 4, () -> twin.functions(1));
        Check.due("gates stay", 12, () -> twin.literal(1, 1, 1));
        Check.due("it is written as before", 30, () -> twin.write(1, false, true));
        Check.due("its text", "aag 3 2 0 3 1\n2\n4\n6\n1\n0\n6 4 2\n", () -> Check.outText(twin));
    }

    private static void literalOfCircuit() {
        Check.sentence("NoSuchElementException when there is none, or no such what.");
        Twin twin = Check.twin(GAPS, NONE);
        int[][] due = {{10, 4}, {6, 12}, {6, 13, 0}};
        for (int what = 0; what < 3; what++) {
            int w = what;
            for (int k = 0; k < due[what].length; k++) {
                int at = k;
                Check.due("literal(0, " + w + ", " + k + ")", due[w][k], () -> twin.literal(0, w, at));
            }
            for (int k : new int[] {-1, due[w].length, due[w].length + 1, 14, 16, 300, Integer.MAX_VALUE, Integer.MIN_VALUE}) {
                Check.due("literal(0, " + w + ", " + k + ")", Check.ELEMENT, () -> twin.literal(0, w, k));
            }
            Check.due("literal(1, " + w + ", 0)", Check.ELEMENT, () -> twin.literal(1, w, 0));
        }
        for (int what : new int[] {-1, 3, 4, 256, Integer.MAX_VALUE, Integer.MIN_VALUE}) {
            Check.due("literal(0, " + what + ", 0)", Check.ELEMENT, () -> twin.literal(0, what, 0));
        }
    }

    private static void literalsOfCalls() {
        Check.sentence("when the literal is not 0 .. 2 * M + 1, or its variable stands for nothing and is not 0 (as all calls that name one do)");
        Twin gaps = Check.twin(GAPS, GAPS);
        Set<Integer> standing = Set.of(0, 1, 4, 5, 6, 7, 10, 11, 12, 13);
        for (int literal = -3; literal <= 18; literal++) {
            ofLiteral(gaps, literal, standing.contains(literal));
        }
        Twin far = Check.twin("aag 1000 1 0 0 0\n2000\n", "aag 1000 1 0 0 0\n2000\n");
        for (int literal : new int[] {0, 1, 2000, 2001}) {
            ofLiteral(far, literal, true);
        }
        for (int literal : new int[] {2, 3, 1998, 1999, 2002, 2003, 4000}) {
            ofLiteral(far, literal, false);
        }
        Twin none = new Twin();
        ofLiteral(none, 0, true);
        ofLiteral(none, 1, true);
        ofLiteral(none, 2, false);
        for (Twin twin : new Twin[] {Check.twin(GAPS, GAPS), far, none}) {
            for (int literal : new int[] {-1, -4, Integer.MIN_VALUE, Integer.MIN_VALUE + 1, Integer.MIN_VALUE + 4,
                Integer.MAX_VALUE, Integer.MAX_VALUE - 1, 1 << 16, (1 << 30) + 4}) {
                ofLiteral(twin, literal, false);
            }
        }
    }

    /** Every call that names a literal, with all else right; an input is asked for only where there is one. */
    private static void ofLiteral(Twin twin, int literal, boolean stands) {
        boolean hasInput = twin.look(0, 0) > 0;
        refused("value", literal, stands, () -> twin.value(0, literal, 0));
        refused("least", literal, stands, () -> twin.least(0, literal, 0));
        refused("greatest", literal, stands, () -> twin.greatest(1, literal));
        refused("same, the first", literal, stands, () -> twin.same(literal, 0));
        refused("same, the second", literal, stands, () -> twin.same(1, literal));
        refused("implies, the first", literal, stands, () -> twin.implies(0, literal, 1));
        refused("implies, the second", literal, stands, () -> twin.implies(1, 0, literal));
        refused("leader", literal, stands, () -> twin.leader(1, literal));
        if (hasInput || !stands) {
            refused("depends", literal, stands, () -> twin.depends(0, literal, 0));
            refused("rises", literal, stands, () -> twin.rises(1, literal, 0));
        }
        if (!stands) {
            refused("depends on no input", literal, false, () -> twin.depends(0, literal, -1));
            refused("rises with no input", literal, false, () -> twin.rises(0, literal, 14));
        }
    }

    private static void refused(String call, int literal, boolean stands, Check.Call made) {
        Check.due(call + " of " + literal + " refused", !stands, () -> Check.ARGUMENT.equals(Check.answerOf(made)));
        if (stands) {
            Check.due(call + " of " + literal + " answers", false, () -> Check.answerOf(made) instanceof String);
        }
    }

    private static void vectorsOfCalls() {
        Check.sentence("or there is no such vector");
        Twin twin = Check.twin(GAPS, NONE);
        for (int x = 0; x < 4; x++) {
            int vector = x;
            Check.due("value at " + x, x == 3 ? 1 : 0, () -> twin.value(0, 6, vector));
        }
        for (int x : new int[] {-1, 4, 5, 7, -4, 16383, 16384, 1 << 30, Integer.MAX_VALUE, Integer.MIN_VALUE, Integer.MIN_VALUE + 3}) {
            Check.due("value at " + x, Check.ARGUMENT, () -> twin.value(0, 6, x));
            Check.due("value of the other at " + x, Check.ARGUMENT, () -> twin.value(1, 1, x));
        }
        Check.due("value of the other at 0", 1, () -> twin.value(1, 1, 0));
        Check.due("value of the other at 1", Check.ARGUMENT, () -> twin.value(1, 1, 1));
    }

    private static String outputs(int inputs, int... literals) {
        StringBuilder text = new StringBuilder("aig " + inputs + " " + inputs + " 0 " + literals.length + " 0\n");
        for (int literal : literals) {
            text.append(literal + "\n");
        }
        return text.toString();
    }

    private static void compareAnswers() {
        Check.sentence("-2 when the circuits have not as many outputs; else the least output whose functions differ; -1 when all are the same.");
        int[] same = {0, 1, 2, 3, 4, 5, 0, 1, 2, 3, 4, 5, 0, 1, 2, 3};
        for (int at = 0; at < 16; at++) {
            int[] other = same.clone();
            other[at] ^= 1;
            other[15] ^= at == 15 ? 0 : 1;
            int due = at;
            Twin twin = Check.twin(outputs(2, same), outputs(2, other));
            Check.due("output " + at + " and the last", due, () -> twin.compare());
        }
        Check.due("all are the same", -1, () -> Check.twin(outputs(2, same), outputs(2, same)).compare());
        Check.due("no outputs", -1, () -> Check.twin(outputs(2), outputs(2)).compare());
        Check.due("no outputs, no inputs", -1, () -> new Twin().compare());
        Check.due("one more in the second", -2, () -> Check.twin(outputs(2, 0), outputs(2, 0, 0)).compare());
        Check.due("one more in the first", -2, () -> Check.twin(outputs(2, 0, 0), outputs(2, 1)).compare());
        Check.due("none in the first", -2, () -> Check.twin(outputs(2), outputs(2, 1)).compare());
        Check.due("16 and 15", -2, () -> Check.twin(outputs(2, same), outputs(2, new int[15])).compare());
        Check.sentence("Throws IllegalStateException when they don't match (as all calls do that say so).");
        for (int[] inputs : new int[][] {{0, 1}, {1, 0}, {13, 14}, {14, 13}, {0, 14}, {14, 0}}) {
            for (int more = 0; more < 2; more++) {
                Twin twin = Check.twin(outputs(inputs[0], 0), more == 0 ? outputs(inputs[1], 0) : outputs(inputs[1], 0, 0));
                Check.due("compare", Check.STATE, () -> twin.compare());
                Check.due("witness", Check.STATE, () -> twin.witness(0));
                Check.due("same", Check.STATE, () -> twin.same(0, 0));
                Check.due("allFunctions", Check.STATE, () -> twin.allFunctions());
                Check.due("witness of no output", Check.STATE, () -> twin.witness(-1));
                Check.due("same of no literal", Check.ARGUMENT, () -> twin.same(-1, 0));
                Check.due("same of no other literal", Check.ARGUMENT, () -> twin.same(0, 30));
            }
        }
        Check.sentence("The circuits MATCH if they have as many inputs.");
        for (int inputs = 0; inputs <= 14; inputs++) {
            Twin twin = Check.twin(outputs(inputs, 1), Texts.chain(false, 400, inputs, 1, 1));
            int count = inputs;
            Check.due("compare of " + count, 0, () -> twin.compare());
            Check.due("allFunctions of " + count, count + 1, () -> twin.allFunctions());
            Check.due("same of " + count, 1, () -> twin.same(2 * count, 2 * count));
        }
    }

    private static void witnessAnswers() {
        Check.sentence("NoSuchElementException when not both have this output.");
        int[] sixteen = new int[16];
        sixteen[15] = 1;
        Twin full = Check.twin(outputs(3, sixteen), outputs(3, new int[16]));
        Check.due("witness of the first of 16", -1, () -> full.witness(0));
        Check.due("witness of the last of 16", 0, () -> full.witness(15));
        for (int output : new int[] {-1, 16, 17, Integer.MAX_VALUE, Integer.MIN_VALUE}) {
            Check.due("witness of " + output, Check.ELEMENT, () -> full.witness(output));
        }
        for (int turn = 0; turn < 2; turn++) {
            Twin twin = turn == 0 ? Check.twin(outputs(3, 2, 4), outputs(3, 2, 6, 0)) : Check.twin(outputs(3, 2, 6, 0), outputs(3, 2, 4));
            Check.due("witness of an output of both", 2, () -> twin.witness(1));
            Check.due("witness of an output of one", Check.ELEMENT, () -> twin.witness(2));
            Check.due("witness of an output of none", Check.ELEMENT, () -> twin.witness(3));
        }
        Check.due("witness of a new one", Check.ELEMENT, () -> new Twin().witness(0));
        Check.sentence("The least vector at which an output of both is not the same; -1 without one.");
        Check.due("no vector", -1, () -> Check.twin(outputs(14, 28), outputs(14, 28)).witness(0));
        Check.due("no vector of no inputs", -1, () -> Check.twin(outputs(0, 1), outputs(0, 1)).witness(0));
        Check.due("the one vector of no inputs", 0, () -> Check.twin(outputs(0, 1), outputs(0, 0)).witness(0));
        for (int k = 0; k < 14; k++) {
            int literal = 2 * k + 2;
            Check.due("input " + k + " and 0", 1 << k, () -> Check.twin(outputs(14, literal), outputs(14, 0)).witness(0));
            Check.due("input " + k + " and 1", 0, () -> Check.twin(outputs(14, literal), outputs(14, 1)).witness(0));
        }
        Check.due("the last vector alone", 16383, () -> Check.twin(allOnes(14), outputs(14, 0)).witness(0));
        Check.due("the last of 64 alone", 63, () -> Check.twin(outputs(6, 0), allOnes(6)).witness(0));
        Check.due("the last of 128 alone", 127, () -> Check.twin(outputs(7, 0), allOnes(7)).witness(0));
    }

    /** An output that is 1 at the last vector alone: the AND of all inputs. */
    private static String allOnes(int inputs) {
        StringBuilder text = new StringBuilder("aag " + 2 * inputs + " " + inputs + " 0 1 " + inputs + "\n");
        for (int k = 1; k <= inputs; k++) {
            text.append(2 * k + "\n");
        }
        text.append(4 * inputs + "\n");
        for (int k = 1; k <= inputs; k++) {
            text.append(2 * (inputs + k) + " " + (k == 1 ? 1 : 2 * (inputs + k - 1)) + " " + 2 * k + "\n");
        }
        return text.toString();
    }

    private static void leastAnswers() {
        Check.sentence("The least vector, from itself on, at which the literal is 1; -1 without one.");
        for (int inputs : new int[] {0, 1, 5, 6, 7, 14}) {
            Twin twin = Check.twin(allOnes(inputs), NONE);
            int last = (1 << inputs) - 1;
            int all = inputs == 0 ? 1 : 4 * inputs;
            String name = inputs + " inputs: ";
            Check.due(name + "the last alone, from 0", last, () -> twin.least(0, all, 0));
            Check.due(name + "the last alone, from itself", last, () -> twin.least(0, all, last));
            Check.due(name + "none", -1, () -> twin.least(0, 0, 0));
            Check.due(name + "none from the last", -1, () -> twin.least(0, 0, last));
            Check.due(name + "without the last, from it", -1, () -> twin.least(0, all ^ 1, last));
            Check.due(name + "without the last, from 0", inputs == 0 ? -1 : 0, () -> twin.least(0, all ^ 1, 0));
            if (inputs > 0) {
                Check.due(name + "the one before the last", last - 1, () -> twin.least(0, all ^ 1, last - 1));
            }
            Check.sentence("Throws IllegalArgumentException also when from is no vector.");
            for (int from : new int[] {-1, last + 1, last + 2, Integer.MAX_VALUE, Integer.MIN_VALUE, -1 - last}) {
                Check.due(name + "least from " + from, Check.ARGUMENT, () -> twin.least(0, all, from));
                Check.due(name + "least of 0 from " + from, Check.ARGUMENT, () -> twin.least(0, 0, from));
            }
            Check.sentence("The least vector, from itself on, at which the literal is 1; -1 without one.");
        }
    }

    private static void greatestAnswers() {
        Check.sentence("The greatest vector at which the literal is 1; -1 without one.");
        for (int inputs : new int[] {0, 1, 5, 6, 7, 14}) {
            Twin twin = Check.twin(NONE, allOnes(inputs));
            int last = (1 << inputs) - 1;
            int all = inputs == 0 ? 1 : 4 * inputs;
            String name = inputs + " inputs: ";
            Check.due(name + "the last alone", last, () -> twin.greatest(1, all));
            Check.due(name + "without the last", last - 1, () -> twin.greatest(1, all ^ 1));
            Check.due(name + "all", last, () -> twin.greatest(1, 1));
            Check.due(name + "none", -1, () -> twin.greatest(1, 0));
        }
        // the AND of all inverses is 1 at vector 0 alone
        Twin zero = Check.twin("aag 3 2 0 0 1\n2\n4\n6 3 5\n", NONE);
        Check.due("vector 0 alone", 0, () -> zero.greatest(0, 6));
        Check.due("a gate that is never 1", -1, () -> Check.twin("aag 2 1 0 0 1\n2\n4 2 3\n", NONE).greatest(0, 4));
    }

    private static void sameAnswers() {
        Check.sentence("have the same function (1), one the other's inverse (-1), or neither (0)");
        Twin none = new Twin();
        for (int literal = 0; literal < 2; literal++) {
            for (int other = 0; other < 2; other++) {
                int one = literal;
                int two = other;
                Check.due("same(" + one + ", " + two + ")", one == two ? 1 : -1, () -> none.same(one, two));
            }
        }
        for (int inputs : new int[] {1, 6, 7, 14}) {
            Twin twin = Check.twin(allOnes(inputs), outputs(inputs));
            int all = 4 * inputs;
            int neither = inputs == 1 ? -1 : 0;
            Check.due("differs at the last vector alone", 0, () -> twin.same(all, 0));
            Check.due("is the same at the last vector alone", 0, () -> twin.same(all, 1));
            Check.due("an input and another", inputs == 1 ? 1 : 0, () -> twin.same(2 * inputs, 2));
            Check.due("an input and its inverse", -1, () -> twin.same(2 * inputs, 2 * inputs + 1));
            Check.due("an inverse and another", neither, () -> twin.same(2 * inputs + 1, 2));
            Check.due("the gate before all", inputs == 1 ? 1 : 0, () -> twin.same(all, 2 * inputs));
        }
        Check.sentence("Throws IllegalArgumentException when one of them stands for nothing; IllegalStateException when they don't match.");
        Twin unlike = Check.twin(GAPS, "aag 9 1 0 0 0\n18\n");
        Check.due("both stand", Check.STATE, () -> unlike.same(10, 18));
        Check.due("the first does not", Check.ARGUMENT, () -> unlike.same(14, 18));
        Check.due("the second does not", Check.ARGUMENT, () -> unlike.same(10, 10));
        Check.due("neither does", Check.ARGUMENT, () -> unlike.same(18, 10));
        Check.due("the first is none of the first circuit", Check.ARGUMENT, () -> unlike.same(18, 18));
    }

    private static void impliesAnswers() {
        Check.sentence("Whether the second literal is 1 wherever the first one is.");
        for (int inputs : new int[] {1, 6, 7, 14}) {
            Twin twin = Check.twin(allOnes(inputs), NONE);
            int all = 4 * inputs;
            boolean one = inputs == 1;
            boolean[] got = {twin.implies(0, all, 2), twin.implies(0, 2, all), twin.implies(0, 1, all ^ 1), twin.implies(0, all, all ^ 1),
                twin.implies(0, all ^ 1, 1), twin.implies(0, 0, all), twin.implies(0, all, 0), twin.implies(0, 0, 0), twin.implies(0, 1, 1),
                twin.implies(0, 0, 1), twin.implies(0, 1, 0), twin.implies(0, all, all)};
            boolean[] due = {true, one, false, false, true, true, false, true, true, true, false, true};
            for (int i = 0; i < due.length; i++) {
                boolean answer = got[i];
                Check.due("row " + i + " with " + inputs + " inputs", due[i], () -> answer);
            }
        }
        Twin none = new Twin();
        Check.due("0 implies 0", true, () -> none.implies(1, 0, 0));
        Check.due("0 implies 1", true, () -> none.implies(1, 0, 1));
        Check.due("1 implies 0", false, () -> none.implies(1, 1, 0));
        Check.due("1 implies 1", true, () -> none.implies(1, 1, 1));
    }

    private static void inputsOfCalls() {
        Check.sentence("NoSuchElementException when there is no such input.");
        for (int inputs = 0; inputs <= 14; inputs++) {
            Twin twin = Check.twin(outputs(inputs), NONE);
            int last = 2 * inputs;
            for (int k = 0; k < inputs; k++) {
                int at = k;
                boolean is = k == inputs - 1;
                Check.due("the last of " + inputs + " depends on " + k, is, () -> twin.depends(0, last, at));
                Check.due("the last of " + inputs + " rises with " + k, is ? 1 : 2, () -> twin.rises(0, last, at));
                Check.due("its inverse rises with " + k, is ? -1 : 2, () -> twin.rises(0, last + 1, at));
            }
            for (int k : new int[] {-1, inputs, inputs + 1, 14, 15, 31, 32, 64, -32, Integer.MAX_VALUE, Integer.MIN_VALUE}) {
                if (k < 0 || k >= inputs) {
                    Check.due("depends of " + inputs + " on " + k, Check.ELEMENT, () -> twin.depends(0, last, k));
                    Check.due("rises of " + inputs + " with " + k, Check.ELEMENT, () -> twin.rises(0, last, k));
                }
            }
        }
    }

    /** Gates of one input k and the last one of all, for every k: AND, its inverse and both ways at once. */
    private static void risesAnswers() {
        Check.sentence("never less when input k becomes 1 (1), never greater (-1), both (2), neither (0)");
        for (int inputs : new int[] {2, 6, 7, 8, 14}) {
            for (int k = 0; k < inputs - 1; k++) {
                int one = 2 * k + 2;
                int two = 2 * inputs;
                int gate = 2 * inputs + 2;
                StringBuilder text = new StringBuilder("aag " + (inputs + 3) + " " + inputs + " 0 0 3\n");
                for (int i = 1; i <= inputs; i++) {
                    text.append(2 * i + "\n");
                }
                text.append(gate + " " + one + " " + two + "\n");
                text.append(gate + 2 + " " + (one + 1) + " " + (two + 1) + "\n");
                text.append(gate + 4 + " " + (gate + 1) + " " + (gate + 3) + "\n");
                int at = k;
                Twin twin = Check.twin(text.toString(), NONE);
                int[] due = {1, -1, -1, 1, 0, 0};
                for (int i = 0; i < due.length; i++) {
                    int literal = gate + i;
                    for (int input : new int[] {at, inputs - 1}) {
                        Check.due(literal + " with input " + input + " of " + inputs, due[i], () -> twin.rises(0, literal, input));
                        Check.due(literal + " on input " + input + " of " + inputs, true, () -> twin.depends(0, literal, input));
                    }
                    int third = inputs == 2 ? -1 : at == 0 ? 1 : 0;
                    if (third >= 0 && third != inputs - 1) {
                        Check.due(literal + " with another input", 2, () -> twin.rises(0, literal, third));
                        Check.due(literal + " on another input", false, () -> twin.depends(0, literal, third));
                    }
                }
                for (int constant = 0; constant < 2; constant++) {
                    int literal = constant;
                    Check.due(literal + " rises", 2, () -> twin.rises(0, literal, at));
                    Check.due(literal + " depends", false, () -> twin.depends(0, literal, at));
                }
            }
        }
        Check.sentence("Whether a literal's function depends on input k.");
        for (int inputs : new int[] {1, 6, 7, 14}) {
            // a difference at two vectors alone, the last one and the one without input k
            Twin twin = Check.twin(allOnes(inputs), NONE);
            for (int k = 0; k < inputs; k++) {
                int at = k;
                Check.due("all depend on " + k, true, () -> twin.depends(0, 4 * inputs, at));
                Check.due("all rise with " + k, 1, () -> twin.rises(0, 4 * inputs, at));
                Check.due("their inverse rises with " + k, -1, () -> twin.rises(0, 4 * inputs + 1, at));
            }
        }
    }

    private static void functionCounts() {
        Check.sentence("the variables of a circuit have that stand for something or are 0 (so 1 at least)");
        Check.due("a new one", 1, () -> new Twin().functions(0));
        Check.due("both new ones", 1, () -> new Twin().allFunctions());
        Check.due("variables that stand for nothing", 1, () -> Check.twin("aag 1000 0 0 0 0\n", NONE).functions(0));
        Check.due("a gate that is always 1", 1, () -> Check.twin("aag 1 0 0 0 1\n2 1 1\n", NONE).functions(0));
        for (int inputs = 0; inputs <= 14; inputs++) {
            int count = inputs;
            Twin twin = Check.twin(outputs(count), allOnes(Math.max(1, count)));
            Check.due("inputs alone", count + 1, () -> twin.functions(0));
            Check.due("with all their ANDs", 2 * Math.max(1, count), () -> twin.functions(1));
            Check.due("of both", count == 0 ? Check.STATE : 2 * count, () -> twin.allFunctions());
        }
        Twin chain = Check.twin(Texts.chain(true, 314, 14, 0, 300), Texts.chain(true, 300, 0, 0, 300));
        Check.due("300 doubles", 15, () -> chain.functions(0));
        Check.due("300 gates of no inputs", 1, () -> chain.functions(1));
        Check.sentence("those that are each other's inverse taken for one");
        Twin inverse = Check.twin("aag 4 2 0 0 2\n2\n4\n6 2 4\n8 7 7\n", "aag 4 2 0 0 2\n2\n4\n6 3 3\n8 2 4\n");
        Check.due("a gate and its inverse", 4, () -> inverse.functions(0));
        Check.due("an input and its inverse", 4, () -> inverse.functions(1));
        Check.due("all of both", 4, () -> inverse.allFunctions());
        Check.sentence("The same of both circuits together.");
        Twin apart = Check.twin("aag 3 2 0 0 1\n2\n4\n6 2 4\n", "aag 3 2 0 0 1\n2\n4\n6 3 4\n");
        Check.due("one more in each", 5, () -> apart.allFunctions());
        Twin turned = Check.twin("aag 2 2 0 0 0\n2\n4\n", "aag 2 2 0 0 0\n4\n2\n");
        Check.due("inputs by their order", 3, () -> turned.allFunctions());
        Check.due("the same circuit twice", 4, () -> Check.twin(GAPS, GAPS).allFunctions());
    }
}
