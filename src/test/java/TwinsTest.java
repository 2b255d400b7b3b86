/** Promises 6, 7, 10 and 16: both circuits together. */
final class TwinsTest {
    /** Outputs: XOR, AND. */
    private static final String FIRST = "aag 5 2 0 2 3\n2\n4\n10\n6\n6 2 4\n8 3 5\n10 7 9\n";

    /** XOR another way (10 is its inverse), its second output is OR; gates 3 and 4 have one input alone. */
    private static final String SECOND = "aag 6 2 0 2 4\n2\n4\n11\n13\n6 2 5\n8 3 4\n10 7 9\n12 3 5\n";

    public static void main(String[] args) {
        equalAndNot();
        countsOfOutputs();
        noMatch();
        sameLiterals();
        countsOfFunctions();
        wideWitness();
        Check.end();
    }

    private static void equalAndNot() {
        Twin twin = Check.twin(FIRST, SECOND);
        Check.due("compare", 1, () -> twin.compare());
        Check.due("witness 0", -1, () -> twin.witness(0));
        Check.due("witness 1", 1, () -> twin.witness(1));
        Twin turned = Check.twin("aag 2 2 0 2 0\n2\n4\n2\n5\n", "aag 2 2 0 2 0\n4\n2\n2\n4\n");
        Check.due("inputs go by their order", 0, () -> turned.compare());
        Check.due("witness 0", 1, () -> turned.witness(0));
        Check.due("witness 1", 0, () -> turned.witness(1));
        Twin alike = Check.twin(SECOND, SECOND);
        Check.due("compare with itself", -1, () -> alike.compare());
        for (int output : new int[] {-1, 2, 16, Integer.MAX_VALUE, Integer.MIN_VALUE}) {
            Check.due("witness " + output, Check.ELEMENT, () -> twin.witness(output));
        }
    }

    private static void countsOfOutputs() {
        Twin twin = Check.twin(FIRST, "aag 2 2 0 3 0\n2\n4\n2\n2\n2\n");
        Check.due("compare", -2, () -> twin.compare());
        Check.due("witness 0", 2, () -> twin.witness(0));
        Check.due("witness 1", 1, () -> twin.witness(1));
        Check.due("witness 2", Check.ELEMENT, () -> twin.witness(2));
        Twin none = Check.twin("aag 2 2 0 0 0\n2\n4\n", FIRST);
        Check.due("compare", -2, () -> none.compare());
        Check.due("witness 0", Check.ELEMENT, () -> none.witness(0));
        Check.due("load", 0, () -> Check.load(none, 1, "aig 2 2 0 0 0\n"));
        Check.due("no outputs at all", -1, () -> none.compare());
    }

    private static void noMatch() {
        Twin twin = Check.twin(FIRST, "aag 3 3 0 1 0\n2\n4\n6\n6\n");
        Check.due("compare, though outputs are not as many", Check.STATE, () -> twin.compare());
        Check.due("witness", Check.STATE, () -> twin.witness(0));
        Check.due("witness of no output", Check.STATE, () -> twin.witness(99));
        Check.due("same", Check.STATE, () -> twin.same(0, 0));
        Check.due("same of no first literal", Check.ARGUMENT, () -> twin.same(12, 0));
        Check.due("same of no second literal", Check.ARGUMENT, () -> twin.same(0, 8));
        Check.due("allFunctions", Check.STATE, () -> twin.allFunctions());
        Check.due("functions", 6, () -> twin.functions(0));
        Check.due("functions", 4, () -> twin.functions(1));
    }

    private static void sameLiterals() {
        Twin twin = Check.twin(FIRST, SECOND);
        int[][] rows = {{10, 11, 1}, {10, 10, -1}, {11, 10, 1}, {11, 11, -1}, {8, 12, 1}, {8, 13, -1}, {2, 2, 1}, {2, 3, -1},
            {2, 4, 0}, {0, 0, 1}, {0, 1, -1}, {1, 1, 1}, {1, 0, -1}, {6, 6, 0}, {6, 10, 0}, {0, 10, 0}};
        for (int[] row : rows) {
            Check.due("same(" + row[0] + ", " + row[1] + ")", row[2], () -> twin.same(row[0], row[1]));
        }
        for (int literal : new int[] {-1, 14, Integer.MAX_VALUE, Integer.MIN_VALUE}) {
            Check.due("same of " + literal, Check.ARGUMENT, () -> twin.same(literal, 0));
            Check.due("same with " + literal, Check.ARGUMENT, () -> twin.same(0, literal));
        }
        Check.due("a literal of the second alone", Check.ARGUMENT, () -> twin.same(12, 0));
        Check.due("the same one there", 0, () -> twin.same(0, 12));
    }

    private static void countsOfFunctions() {
        Twin twin = Check.twin(FIRST, SECOND);
        // 0, two inputs; AND, NOR, XOR; and the two with one input alone
        Check.due("functions of 0", 6, () -> twin.functions(0));
        Check.due("functions of 1", 7, () -> twin.functions(1));
        Check.due("all functions", 8, () -> twin.allFunctions());
        Check.due("load", 0, () -> Check.load(twin, 1, "aig 2 2 0 0 0\n"));
        Check.due("all functions", 6, () -> twin.allFunctions());
        Check.due("load", 0, () -> Check.load(twin, 0, "aag 7 2 0 0 5\n2\n4\n6 2 2\n8 2 3\n10 7 7\n12 9 1\n14 4 10\n"));
        Check.due("functions of doubles", 4, () -> twin.functions(0));
        Check.due("all functions", 4, () -> twin.allFunctions());
    }

    /** The AND of all fourteen inputs against 0, and against all but the last. */
    private static void wideWitness() {
        StringBuilder text = new StringBuilder("aag 27 14 0 2 13\n");
        for (int k = 1; k <= 14; k++) {
            text.append(2 * k).append('\n');
        }
        text.append("54\n52\n30 2 4\n");
        for (int k = 2; k <= 13; k++) {
            text.append((28 + 2 * k) + " " + (26 + 2 * k) + " " + (2 * k + 2) + "\n");
        }
        Twin twin = Check.twin(text.toString(), "aig 14 14 0 2 0\n0\n0\n");
        Check.due("compare", 0, () -> twin.compare());
        Check.due("witness 0", 16383, () -> twin.witness(0));
        Check.due("witness 1", 8191, () -> twin.witness(1));
        Check.due("functions", 28, () -> twin.functions(0));
        Check.due("depth", 13, () -> twin.look(0, 6));
        Check.due("same as 0", 0, () -> twin.same(54, 0));
    }
}
