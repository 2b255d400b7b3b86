/** Promises 1, 2 and 3: a new object, the tape, and what a load does to tape and circuit. */
final class TapeTest {
    private static final String AND = "aag 3 2 0 1 1\n2\n4\n6\n6 4 2\n";

    public static void main(String[] args) {
        newObject();
        feedCounts();
        feedOrder();
        feedRefuses();
        loadUsesTapeUp();
        wrongTextLeavesCircuit();
        noSuchCircuit();
        rightTextReplacesAll();
        Check.end();
    }

    private static void newObject() {
        Twin twin = new Twin();
        for (int circuit = 0; circuit < 2; circuit++) {
            int c = circuit;
            for (int what = 0; what <= 8; what++) {
                int asked = what;
                Check.due("new look " + what, 0, () -> twin.look(c, asked));
            }
            Check.due("new functions", 1, () -> twin.functions(c));
            Check.due("new value of 0", 0, () -> twin.value(c, 0, 0));
            Check.due("new value of 1", 1, () -> twin.value(c, 1, 0));
            Check.due("new value of 2", Check.ARGUMENT, () -> twin.value(c, 2, 0));
            Check.due("new vector 1", Check.ARGUMENT, () -> twin.value(c, 0, 1));
            Check.due("new leader of 1", 1, () -> twin.leader(c, 1));
            for (int what = 0; what < 3; what++) {
                int asked = what;
                Check.due("new literal", Check.ELEMENT, () -> twin.literal(c, asked, 0));
            }
        }
        Check.due("new compare", -1, () -> twin.compare());
        Check.due("new allFunctions", 1, () -> twin.allFunctions());
        Check.due("new witness", Check.ELEMENT, () -> twin.witness(0));
        Check.due("new same", 1, () -> twin.same(1, 1));
        Check.due("new same inverse", -1, () -> twin.same(1, 0));
        Check.due("new out", Check.ELEMENT, () -> twin.out(0));
    }

    private static void feedCounts() {
        Twin twin = new Twin();
        int due = 0;
        for (int n = 1; n <= 8; n++) {
            int fed = n;
            due += n;
            Check.due("feed " + n, due, () -> twin.feed(fed, -1L));
        }
        Check.due("tape of circuit 0", 36, () -> twin.look(0, 7));
        Check.due("tape of circuit 1", 36, () -> twin.look(1, 7));
    }

    private static void feedOrder() {
        Twin twin = new Twin();
        // the bytes above the n lowest count for nothing
        twin.feed(4, 0x7777777720676161L);
        twin.feed(8, 0x2030203020302030L);
        twin.feed(2, 0x0A30L);
        Check.due("'aag ', then '0 0 0 0 ' lowest first", 0, () -> twin.load(0));
        twin.feed(4, 0x20676161L);
        twin.feed(8, 0x3020302030203020L);
        Check.due("a blank first", 2, () -> twin.load(0));
        Check.due("its place", 4, () -> twin.look(0, 5));
    }

    private static void feedRefuses() {
        Twin twin = new Twin();
        for (int n : new int[] {0, 9, -1, Integer.MIN_VALUE, Integer.MAX_VALUE}) {
            Check.due("feed " + n, Check.ARGUMENT, () -> twin.feed(n, 0));
        }
        Check.due("tape", 0, () -> twin.look(0, 7));
        Check.due("feed 8", 8, () -> twin.feed(8, 0));
        Check.due("feed 9", Check.ARGUMENT, () -> twin.feed(9, 0));
        Check.due("tape stays", 8, () -> twin.look(1, 7));
        Check.due("load of zeros", 1, () -> twin.load(0));
        Check.due("feed again", 1, () -> twin.feed(1, 0));
    }

    private static void loadUsesTapeUp() {
        Twin twin = new Twin();
        Check.due("load", 0, () -> Check.load(twin, 0, AND));
        Check.due("tape after it", 0, () -> twin.look(0, 7));
        Check.due("load of nothing", 1, () -> twin.load(1));
        Check.due("load of a wrong text", 1, () -> Check.load(twin, 1, "xyz"));
        Check.due("tape after it", 0, () -> twin.look(0, 7));
        Check.due("a long tape", 0, () -> Check.load(twin, 1, AND + "c\n" + "z".repeat(3000)));
        Check.due("tape after it", 0, () -> twin.look(1, 7));
        Check.due("gates", 1, () -> twin.look(1, 1));
    }

    private static void wrongTextLeavesCircuit() {
        Twin twin = Check.twin(AND, AND);
        String[] wrong = {"", "aag 1", "aag 1 1 1 0 0\n", "aag 0 1 0 0 0\n", "aag 4 1 0 1 1\n2\n9\n8 2 2", "aag 4 1 0 1 1\n3\n",
            "aag 4 1 0 1 1\n2\n8\n8 4 2\n", "aag 4 1 0 1 1\n2\n8\n8 8 2\n"};
        for (int i = 0; i < wrong.length; i++) {
            String text = wrong[i];
            Check.due("load of " + text, i + 1, () -> Check.load(twin, 0, text));
            Check.due("its error", i + 1, () -> twin.look(0, 4));
            Check.due("error of the other", 0, () -> twin.look(1, 4));
            Check.due("compare", -1, () -> twin.compare());
            Check.due("inputs", 2, () -> twin.look(0, 0));
            Check.due("M", 3, () -> twin.look(0, 3));
            Check.due("output", 6, () -> twin.literal(0, 2, 0));
            Check.due("its value", 1, () -> twin.value(0, 6, 3));
            Check.due("all functions", 4, () -> twin.allFunctions());
        }
        Check.due("load of a right text", 0, () -> Check.load(twin, 0, AND));
        Check.due("error", 0, () -> twin.look(0, 4));
        Check.due("place", 0, () -> twin.look(0, 5));
    }

    private static void noSuchCircuit() {
        Twin twin = new Twin();
        Check.feed(twin, Check.bytes(AND));
        for (int c : new int[] {-1, 2, Integer.MAX_VALUE, Integer.MIN_VALUE}) {
            Check.due("load " + c, Check.ARGUMENT, () -> twin.load(c));
            Check.due("literal of " + c, Check.ARGUMENT, () -> twin.literal(c, 9, 0));
            Check.due("value of " + c, Check.ARGUMENT, () -> twin.value(c, 0, 0));
            Check.due("least of " + c, Check.ARGUMENT, () -> twin.least(c, 0, 0));
            Check.due("greatest of " + c, Check.ARGUMENT, () -> twin.greatest(c, 0));
            Check.due("implies of " + c, Check.ARGUMENT, () -> twin.implies(c, 0, 0));
            Check.due("depends of " + c, Check.ARGUMENT, () -> twin.depends(c, 0, 0));
            Check.due("rises of " + c, Check.ARGUMENT, () -> twin.rises(c, 0, 0));
            Check.due("leader of " + c, Check.ARGUMENT, () -> twin.leader(c, 0));
            Check.due("functions of " + c, Check.ARGUMENT, () -> twin.functions(c));
            Check.due("write of " + c, Check.ARGUMENT, () -> twin.write(c, false, false));
            Check.due("look of " + c, Check.ARGUMENT, () -> twin.look(c, 7));
        }
        Check.due("the tape stays", AND.length(), () -> twin.look(0, 7));
        Check.due("OUT stays", 0, () -> twin.look(0, 8));
        Check.due("load 1", 0, () -> twin.load(1));
    }

    private static void rightTextReplacesAll() {
        Twin twin = Check.twin("aag 9 2 0 2 2\n18\n2\n6\n8\n6 2 18\n8 6 3\n", AND);
        Check.due("load of a smaller one", 0, () -> Check.load(twin, 0, AND));
        Check.due("compare", -1, () -> twin.compare());
        Check.due("literal 8", Check.ARGUMENT, () -> twin.value(0, 8, 0));
        Check.due("literal 18", Check.ARGUMENT, () -> twin.value(0, 18, 0));
        Check.due("no gates at all", 0, () -> Check.load(twin, 0, "aag 9 2 0 0 0\n18\n2\n"));
        Check.due("functions", 3, () -> twin.functions(0));
        Check.due("literal 6", Check.ARGUMENT, () -> twin.value(0, 6, 0));
        Check.due("literal 18 again", 1, () -> twin.value(0, 18, 1));
        Check.due("gate 0", Check.ELEMENT, () -> twin.literal(0, 1, 0));
    }
}
