/** Promises 4, 5, 8, 9, 11, 12, 13: literals of one circuit as functions. */
final class FunctionsTest {
    /** Inputs 10 and 2 (k 0 and 1); 4 is their AND, 6 is neither, 8 is XOR, 12 is always 0; 14 stands for nothing. */
    private static final String XOR = "aag 7 2 0 3 4\n10\n2\n8\n13\n5\n8 5 7\n4 10 2\n6 11 3\n12 4 6\n";

    public static void main(String[] args) {
        literals();
        values();
        leastAndGreatest();
        wideOnes();
        implications();
        dependence();
        rising();
        noInputs();
        Check.end();
    }

    private static void literals() {
        Twin twin = Check.twin(XOR, "aig 3 1 0 2 2\n7\n0\n\2\0\1\1");
        int[][] due = {{10, 2}, {8, 4, 6, 12}, {8, 13, 5}};
        int[][] dueSecond = {{2}, {4, 6}, {7, 0}};
        for (int what = 0; what < 3; what++) {
            for (int k = 0; k < 4; k++) {
                int w = what;
                int at = k;
                Check.due("literal(0, " + w + ", " + k + ")", k < due[w].length ? due[w][k] : Check.ELEMENT,
                        () -> twin.literal(0, w, at));
                Check.due("literal(1, " + w + ", " + k + ")", k < dueSecond[w].length ? dueSecond[w][k] : Check.ELEMENT,
                        () -> twin.literal(1, w, at));
            }
            int w = what;
            Check.due("literal -1", Check.ELEMENT, () -> twin.literal(0, w, -1));
            Check.due("literal far off", Check.ELEMENT, () -> twin.literal(0, w, Integer.MAX_VALUE));
        }
        Check.due("no such what", Check.ELEMENT, () -> twin.literal(0, 3, 0));
        Check.due("no such what", Check.ELEMENT, () -> twin.literal(0, -1, 0));
        Check.due("no such circuit first", Check.ARGUMENT, () -> twin.literal(2, 3, 0));
    }

    private static void values() {
        Twin twin = Check.twin(XOR, XOR);
        row(twin, 0, "0000");
        row(twin, 1, "1111");
        row(twin, 10, "0101");
        row(twin, 11, "1010");
        row(twin, 2, "0011");
        row(twin, 4, "0001");
        row(twin, 6, "1000");
        row(twin, 8, "0110");
        row(twin, 9, "1001");
        row(twin, 12, "0000");
        row(twin, 13, "1111");
        for (int literal : new int[] {-1, 14, 15, 16, Integer.MAX_VALUE, Integer.MIN_VALUE}) {
            Check.due("value of " + literal, Check.ARGUMENT, () -> twin.value(0, literal, 0));
            Check.due("least of " + literal, Check.ARGUMENT, () -> twin.least(0, literal, 0));
            Check.due("greatest of " + literal, Check.ARGUMENT, () -> twin.greatest(0, literal));
            Check.due(literal + " implies", Check.ARGUMENT, () -> twin.implies(0, literal, 0));
            Check.due("implies " + literal, Check.ARGUMENT, () -> twin.implies(0, 0, literal));
            Check.due("depends of " + literal, Check.ARGUMENT, () -> twin.depends(0, literal, 9));
            Check.due("rises of " + literal, Check.ARGUMENT, () -> twin.rises(0, literal, 9));
        }
        for (int vector : new int[] {-1, 4, Integer.MAX_VALUE, Integer.MIN_VALUE}) {
            Check.due("value at " + vector, Check.ARGUMENT, () -> twin.value(0, 1, vector));
            Check.due("least from " + vector, Check.ARGUMENT, () -> twin.least(0, 1, vector));
        }
    }

    /** The values at vectors 0, 1, 2 and 3. */
    private static void row(Twin twin, int literal, String due) {
        for (int x = 0; x < due.length(); x++) {
            int vector = x;
            Check.due("value(0, " + literal + ", " + x + ")", due.charAt(x) - '0', () -> twin.value(0, literal, vector));
        }
    }

    private static void leastAndGreatest() {
        Twin twin = Check.twin(XOR, XOR);
        int[][] rows = {{8, 0, 1}, {8, 1, 1}, {8, 2, 2}, {8, 3, -1}, {9, 1, 3}, {4, 0, 3}, {6, 0, 0}, {6, 1, -1},
            {12, 0, -1}, {13, 3, 3}, {0, 0, -1}, {1, 2, 2}};
        for (int[] row : rows) {
            Check.due("least of " + row[0] + " from " + row[1], row[2], () -> twin.least(0, row[0], row[1]));
        }
        int[][] last = {{8, 2}, {9, 3}, {6, 0}, {10, 3}, {11, 2}, {12, -1}, {0, -1}, {1, 3}, {13, 3}};
        for (int[] row : last) {
            Check.due("greatest of " + row[0], row[1], () -> twin.greatest(0, row[0]));
        }
    }

    /** Fourteen inputs; gate 0 is inputs 12 and 13, gate 1 that without input 5. */
    private static void wideOnes() {
        Twin twin = Check.twin("aig 16 14 0 1 2\n32\n\2\2\2\21", "aig 14 14 0 0 0\n");
        int[][] rows = {{30, 0, 12288}, {30, 12289, 12289}, {30, 16383, 16383}, {31, 12288, -1}, {31, 12287, 12287},
            {28, 0, 8192}, {32, 12288, 12288}, {32, 12319, 12319}, {32, 12320, 12352}, {33, 12288, 12320},
            {2, 16382, 16383}, {3, 16383, -1}, {14, 1, 64}, {14, 128, 192}};
        for (int[] row : rows) {
            Check.due("wide least of " + row[0] + " from " + row[1], row[2], () -> twin.least(0, row[0], row[1]));
        }
        int[][] last = {{30, 16383}, {31, 12287}, {32, 16351}, {33, 16383}, {29, 8191}, {3, 16382}, {0, -1}};
        for (int[] row : last) {
            Check.due("wide greatest of " + row[0], row[1], () -> twin.greatest(0, row[0]));
        }
        Check.due("no vector", Check.ARGUMENT, () -> twin.value(0, 0, 16384));
        Check.due("the last vector", 1, () -> twin.value(0, 28, 16383));
        int[] dependent = {5, 12, 13};
        int[] rises = {-1, 1, 1};
        for (int k = 0; k < 14; k++) {
            int at = k;
            int due = 2;
            for (int i = 0; i < 3; i++) {
                due = dependent[i] == k ? rises[i] : due;
            }
            int wanted = due;
            Check.due("wide rises with " + k, wanted, () -> twin.rises(0, 32, at));
            Check.due("wide depends on " + k, wanted != 2, () -> twin.depends(0, 32, at));
            Check.due("its inverse rises with " + k, wanted == 2 ? 2 : -wanted, () -> twin.rises(0, 33, at));
        }
    }

    private static void implications() {
        Twin twin = Check.twin(XOR, XOR);
        int[][] yes = {{4, 10}, {4, 2}, {4, 9}, {6, 11}, {8, 5}, {0, 4}, {0, 0}, {4, 1}, {12, 0}, {1, 13}, {8, 8}, {12, 8}};
        for (int[] pair : yes) {
            Check.due(pair[0] + " implies " + pair[1], true, () -> twin.implies(0, pair[0], pair[1]));
        }
        int[][] no = {{10, 4}, {4, 8}, {1, 0}, {1, 8}, {8, 9}, {10, 2}, {5, 8}, {13, 12}};
        for (int[] pair : no) {
            Check.due(pair[0] + " implies " + pair[1], false, () -> twin.implies(0, pair[0], pair[1]));
        }
    }

    private static void dependence() {
        Twin twin = Check.twin(XOR, XOR);
        for (int k = 0; k < 2; k++) {
            int at = k;
            for (int literal : new int[] {4, 5, 6, 7, 8, 9}) {
                Check.due(literal + " depends on " + k, true, () -> twin.depends(0, literal, at));
            }
            // 12 is made of gates that depend on both, and is always 0 all the same
            for (int literal : new int[] {0, 1, 12, 13}) {
                Check.due(literal + " depends on " + k, false, () -> twin.depends(0, literal, at));
            }
            Check.due("10 depends on " + k, k == 0, () -> twin.depends(0, 10, at));
            Check.due("3 depends on " + k, k == 1, () -> twin.depends(0, 3, at));
        }
        for (int k : new int[] {-1, 2, 14, Integer.MAX_VALUE, Integer.MIN_VALUE}) {
            Check.due("depends on " + k, Check.ELEMENT, () -> twin.depends(0, 8, k));
            Check.due("rises with " + k, Check.ELEMENT, () -> twin.rises(0, 8, k));
        }
    }

    private static void rising() {
        Twin twin = Check.twin(XOR, XOR);
        int[][] rows = {{10, 0, 1}, {10, 1, 2}, {11, 0, -1}, {2, 1, 1}, {4, 0, 1}, {4, 1, 1}, {5, 1, -1}, {6, 0, -1},
            {7, 0, 1}, {8, 0, 0}, {8, 1, 0}, {9, 0, 0}, {12, 0, 2}, {13, 1, 2}, {0, 0, 2}, {1, 1, 2}};
        for (int[] row : rows) {
            Check.due("rises(0, " + row[0] + ", " + row[1] + ")", row[2], () -> twin.rises(0, row[0], row[1]));
        }
    }

    private static void noInputs() {
        Twin twin = Check.twin("aag 2 0 0 1 1\n4\n4 1 1\n", "aag 0 0 0 0 0\n");
        Check.due("value", 1, () -> twin.value(0, 4, 0));
        Check.due("inverted", 0, () -> twin.value(0, 5, 0));
        Check.due("vector 1", Check.ARGUMENT, () -> twin.value(0, 4, 1));
        Check.due("least", 0, () -> twin.least(0, 4, 0));
        Check.due("greatest", 0, () -> twin.greatest(0, 4));
        Check.due("greatest of the inverse", -1, () -> twin.greatest(0, 5));
        Check.due("depends", Check.ELEMENT, () -> twin.depends(0, 4, 0));
        Check.due("functions", 1, () -> twin.functions(0));
        Check.due("leader", 1, () -> twin.leader(0, 4));
    }
}
