/** Promises 14 and 15: leaders, and how many functions there are. */
final class LeaderTest {
    public static void main(String[] args) {
        leastDepthFirst();
        leastOfOneDepth();
        inverses();
        inputsAndConstants();
        Check.end();
    }

    private static void due(Twin twin, int literal, Object want) {
        Check.due("leader(0, " + literal + ")", want, () -> twin.leader(0, literal));
    }

    /** Variable 3 is as deep as 2, variable 9 has the same function and depth 1. */
    private static void leastDepthFirst() {
        Twin twin = Check.twin("aag 9 2 0 0 3\n2\n4\n6 8 1\n8 2 4\n18 4 2\n", "aag 0 0 0 0 0\n");
        due(twin, 6, 8);
        due(twin, 7, 9);
        due(twin, 8, 8);
        due(twin, 18, 8);
        due(twin, 19, 9);
        Twin far = Check.twin("aag 9 2 0 0 3\n2\n4\n6 16 2\n16 2 5\n18 2 5\n", "aag 0 0 0 0 0\n");
        due(far, 6, 16);
        due(far, 18, 16);
        due(far, 17, 17);
        Check.due("functions", 4, () -> far.functions(0));
    }

    private static void leastOfOneDepth() {
        Twin twin = Check.twin("aag 8 2 0 0 3\n2\n4\n16 2 4\n14 4 2\n12 2 4\n", "aag 0 0 0 0 0\n");
        for (int literal : new int[] {12, 14, 16}) {
            due(twin, literal, 12);
            due(twin, literal + 1, 13);
        }
        for (int literal : new int[] {-1, 6, 7, 8, 18, Integer.MIN_VALUE, Integer.MAX_VALUE}) {
            due(twin, literal, Check.ARGUMENT);
        }
    }

    /** 10 is XOR, 16 is its inverse, both of depth 2; 18 is XOR again, of depth 3. */
    private static void inverses() {
        String text = "aag 9 2 0 0 7\n2\n4\n6 2 4\n8 3 5\n10 7 9\n12 2 5\n14 3 4\n16 13 15\n18 17 11\n";
        Twin twin = Check.twin(text, "aag 0 0 0 0 0\n");
        due(twin, 10, 10);
        due(twin, 16, 11);
        due(twin, 17, 10);
        due(twin, 18, 0);
        due(twin, 19, 1);
        Check.due("functions", 8, () -> twin.functions(0));
    }

    private static void inputsAndConstants() {
        String text = "aag 9 2 0 0 6\n18\n10\n2 18 18\n4 3 3\n6 18 19\n8 7 10\n12 4 2\n14 6 10\n";
        Twin twin = Check.twin(text, "aag 0 0 0 0 0\n");
        int[][] rows = {{0, 0}, {1, 1}, {18, 18}, {19, 19}, {10, 10}, {2, 18}, {3, 19}, {4, 19}, {5, 18}, {6, 0}, {7, 1},
            {8, 10}, {9, 11}, {12, 0}, {13, 1}, {14, 0}};
        for (int[] row : rows) {
            due(twin, row[0], row[1]);
        }
        Check.due("functions", 3, () -> twin.functions(0));
        Check.due("functions of the other", 1, () -> twin.functions(1));
    }
}
