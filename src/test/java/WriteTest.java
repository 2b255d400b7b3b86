/** Promises 17, 18 and 19: texts written, OUT, and what look tells. */
final class WriteTest {
    private static final String EMPTY = "aag 0 0 0 0 0\n";

    public static void main(String[] args) {
        emptyOnes();
        onlyWhatOutputsNeed();
        numbersByDepth();
        reducedDepths();
        longSteps();
        outBytes();
        readAgain();
        looks();
        Check.end();
    }

    private static void due(String text, boolean binary, boolean reduced, String want) {
        Twin twin = Check.twin(text, EMPTY);
        String call = "write of " + text + binary + " " + reduced;
        Check.due(call, want.length(), () -> twin.write(0, binary, reduced));
        Check.due(call, want, () -> Check.outText(twin));
        Check.due("bytes of OUT", want.length(), () -> twin.look(1, 8));
    }

    private static void emptyOnes() {
        for (int reduced = 0; reduced < 2; reduced++) {
            due(EMPTY, false, reduced == 1, EMPTY);
            due(EMPTY, true, reduced == 1, "aig 0 0 0 0 0\n");
            due("aag 9 2 0 2 0\n18\n4\n5\n1\nc\nx", false, reduced == 1, "aag 2 2 0 2 0\n2\n4\n5\n1\n");
            due("aag 9 2 0 2 0\n18\n4\n5\n1\n", true, reduced == 1, "aig 2 2 0 2 0\n5\n1\n");
        }
        Twin twin = new Twin();
        Check.due("write of a new one", 14, () -> twin.write(1, true, true));
        Check.due("its text", "aig 0 0 0 0 0\n", () -> Check.outText(twin));
        Check.due("no such circuit", Check.ARGUMENT, () -> twin.write(-1, false, false));
        Check.due("OUT stays", "aig 0 0 0 0 0\n", () -> Check.outText(twin));
    }

    /** Gate 8 is needed by nobody, 10 by 12 alone. */
    private static void onlyWhatOutputsNeed() {
        String text = "aag 6 2 0 1 3\n2\n4\n13\n8 2 4\n10 3 5\n12 10 2\n";
        due(text, false, false, "aag 4 2 0 1 2\n2\n4\n9\n6 5 3\n8 6 2\n");
        due(text, true, false, "aig 4 2 0 1 2\n9\n\1\2\2\4");
        due(text, false, true, "aag 2 2 0 1 0\n2\n4\n1\n");
        due("aag 4 2 0 0 2\n2\n4\n6 2 4\n8 6 2\n", false, false, "aag 2 2 0 0 0\n2\n4\n");
    }

    /** Depths: 18 and 8 have 1, 10 has 2, 6 has 3; the inputs change their variables too. */
    private static void numbersByDepth() {
        String text = "aag 9 2 0 2 4\n14\n2\n6\n11\n6 10 2\n10 9 19\n18 14 2\n8 3 15\n";
        due(text, false, false, "aag 6 2 0 2 4\n2\n4\n12\n11\n6 5 3\n8 4 2\n10 9 7\n12 10 4\n");
        due(text, true, false, "aig 6 2 0 2 4\n12\n11\n\1\2\4\2\1\2\2\6");
        // of two equal literals, and of a constant and a literal
        due("aag 3 1 0 1 2\n2\n6\n6 4 4\n4 1 2\n", false, false, "aag 3 1 0 1 2\n2\n6\n4 2 1\n6 4 4\n");
        due("aag 3 1 0 1 2\n2\n6\n6 4 4\n4 1 2\n", true, false, "aig 3 1 0 1 2\n6\n\2\1\2\0");
    }

    /** 12 rests on 10 (depth 2), whose leader is 6 (depth 1); then it is no deeper than 14 and comes first. */
    private static void reducedDepths() {
        String text = "aag 7 3 0 2 4\n2\n4\n6\n14\n13\n12 10 6\n14 8 7\n10 8 2\n8 2 4\n";
        due(text, false, false, "aag 7 3 0 2 4\n2\n4\n6\n12\n15\n8 4 2\n10 8 2\n12 8 7\n14 10 6\n");
        due(text, false, true, "aag 6 3 0 2 3\n2\n4\n6\n12\n11\n8 4 2\n10 8 6\n12 8 7\n");
        due(text, true, true, "aig 6 3 0 2 3\n12\n11\n\4\2\2\2\4\1");
        // doubles that are inverses of their leaders: 10 is XOR, 16 its inverse
        String both = "aag 9 2 0 2 7\n2\n4\n16\n19\n6 2 4\n8 3 5\n10 7 9\n12 2 5\n14 3 4\n16 13 15\n18 16 2\n";
        due(both, false, true, "aag 5 2 0 2 3\n2\n4\n11\n7\n6 4 2\n8 5 3\n10 9 7\n");
    }

    private static void longSteps() {
        chain(151, 2);
        chain(300, 0);
        // a second step of 127, the greatest of one byte, and of 128
        chain(65, 3);
        chain(65, 2);
    }

    /** Each gate is the AND of the one before and literal 1, the last one of that and another literal. */
    private static void chain(int gates, int lastLesser) {
        int largest = gates + 1;
        StringBuilder aag = new StringBuilder("aag " + largest + " 1 0 1 " + gates + "\n2\n" + (2 * largest + 1) + "\n");
        StringBuilder aig = new StringBuilder("aig " + largest + " 1 0 1 " + gates + "\n" + (2 * largest + 1) + "\n");
        for (int k = 1; k <= gates; k++) {
            int own = 2 * k + 2;
            int lesser = k == gates ? lastLesser : 1;
            aag.append(own + " " + (own - 2) + " " + lesser + "\n");
            aig.append(Texts.step(2)).append(Texts.step(own - 2 - lesser));
        }
        due(aag.toString(), false, false, aag.toString());
        due(aag.toString(), true, false, aig.toString());
        due(aig.toString(), false, false, aag.toString());
        due(aig.toString(), true, false, aig.toString());
        due(aig.toString(), true, true, "aig 1 1 0 1 0\n" + (lastLesser == 2 ? 3 : 1) + "\n");
    }

    private static void outBytes() {
        Twin twin = Check.twin("aag 2 1 0 1 1\n2\n5\n4 2 2\n", EMPTY);
        Check.due("out before", Check.ELEMENT, () -> twin.out(0));
        Check.due("write", 24, () -> twin.write(0, false, false));
        Check.due("out 0", 0x2031203220676161L, () -> twin.out(0));
        Check.due("out 1", 0x3020312032206761L, () -> twin.out(1));
        Check.due("out 16", 0x0A32203220340A35L, () -> twin.out(16));
        Check.due("out 17", 0x000A32203220340AL, () -> twin.out(17));
        Check.due("out 23", 0x0AL, () -> twin.out(23));
        for (int k : new int[] {24, -1, Integer.MAX_VALUE, Integer.MIN_VALUE}) {
            Check.due("out " + k, Check.ELEMENT, () -> twin.out(k));
        }
        Check.due("a shorter one", 14, () -> twin.write(1, false, false));
        Check.due("nothing of the longer one", 0x0A302030L, () -> twin.out(10));
        Check.due("out 14", Check.ELEMENT, () -> twin.out(14));
        // the last byte but two of the steps is above 127: no negative number comes of it
        Twin high = Check.twin("aag 66 1 0 1 65\n2\n132\n" + chainLines(), EMPTY);
        Check.due("write", 20 + 131, () -> high.write(0, true, false));
        Check.due("out of the last step", 0x018002L, () -> high.out(148));
    }

    private static String chainLines() {
        StringBuilder lines = new StringBuilder();
        for (int k = 1; k <= 65; k++) {
            lines.append((2 * k + 2) + " " + 2 * k + " " + (k == 65 ? 2 : 1) + "\n");
        }
        return lines.toString();
    }

    private static void readAgain() {
        RandomTexts texts = new RandomTexts(7);
        for (int run = 0; run < 200; run++) {
            int inputs = texts.below(7);
            String text = texts.text(inputs, texts.below(80), 1 + texts.below(16));
            Twin twin = Check.twin(text, text);
            boolean binary = run % 2 == 0;
            boolean reduced = run % 4 < 2;
            twin.write(0, binary, reduced);
            String written = Check.outText(twin);
            Check.due("load of what was written", 0, () -> Check.load(twin, 1, written));
            Check.due("compare", -1, () -> twin.compare());
            twin.write(1, binary, false);
            Check.due("written again", written, () -> Check.outText(twin));
            if (reduced) {
                Check.due("no doubles", twin.look(1, 0) + twin.look(1, 1) + 1, () -> twin.functions(1));
            }
        }
    }

    private static void looks() {
        Twin twin = Check.twin("aag 20 3 0 2 4\n2\n4\n6\n10\n6\n8 2 4\n10 8 6\n12 10 3\n14 13 5\n", EMPTY);
        int[] due = {3, 4, 2, 20, 0, 0, 2, 0, 0};
        for (int what = 0; what < due.length; what++) {
            int asked = what;
            Check.due("look(0, " + what + ")", due[what], () -> twin.look(0, asked));
            Check.due("look(1, " + what + ")", 0, () -> twin.look(1, asked));
        }
        for (int what : new int[] {-1, 9, Integer.MAX_VALUE, Integer.MIN_VALUE}) {
            Check.due("look " + what, Check.ARGUMENT, () -> twin.look(0, what));
        }
        for (int what = 0; what <= 8; what++) {
            int asked = what;
            Check.due("look of no circuit", Check.ARGUMENT, () -> twin.look(2, asked));
            Check.due("look of no circuit", Check.ARGUMENT, () -> twin.look(-1, asked));
        }
        Check.due("wrong load", 6, () -> Check.load(twin, 1, "aag 2 2 0 0 0\n2\n3\n"));
        Check.due("error of 1", 6, () -> twin.look(1, 4));
        Check.due("place of 1", 16, () -> twin.look(1, 5));
        Check.due("error of 0", 0, () -> twin.look(0, 4));
        twin.feed(3, 0);
        twin.write(1, true, false);
        for (int circuit = 0; circuit < 2; circuit++) {
            int c = circuit;
            Check.due("tape", 3, () -> twin.look(c, 7));
            Check.due("OUT", 14, () -> twin.look(c, 8));
        }
        Check.due("wrong again", 1, () -> twin.load(1));
        Check.due("place of 1", 0, () -> twin.look(1, 5));
        Check.due("error of 1", 1, () -> twin.look(1, 4));
        Check.due("greatest depth though not the last", 1, () -> depthOfOutputs("aag 2 1 0 3 1\n2\n2\n5\n0\n4 2 2\n"));
        Check.due("a deep gate that no output needs", 0, () -> depthOfOutputs("aag 2 1 0 1 1\n2\n2\n4 2 2\n"));
    }

    private static int depthOfOutputs(String text) {
        return Check.twin(text, EMPTY).look(0, 6);
    }
}
