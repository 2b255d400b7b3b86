import java.nio.charset.StandardCharsets;
import java.util.Arrays;

/** Depths, leaders, circuits reduced and written, OUT and look (promises 14, 17, 18 and 19) at their bounds. */
final class WriteBoundsTest {
    private static final String NONE = "aag 0 0 0 0 0\n";

    public static void main(String[] args) {
        depths();
        depthOfOutputs();
        leadersByDepth();
        leadersOfOneDepth();
        leadersOfWhatStands();
        leftOut();
        becomeLeaders();
        reducedDepths();
        gatesOnWays();
        numbersByDepth();
        inputsFirst();
        sizesWritten();
        greaterFirst();
        digits();
        stepsWritten();
        emptyOut();
        latestOut();
        eightBytes();
        longestOut();
        looks();
        Check.end();
    }

    private static void due(String text, boolean binary, boolean reduced, String want) {
        Twin twin = Check.twin(NONE, text);
        String call = "write(1, " + binary + ", " + reduced + ") of " + text;
        Check.due(call, want.length(), () -> twin.write(1, binary, reduced));
        Check.due("text of " + call, want, () -> Check.outText(twin));
        Check.due("look 8 behind " + call, want.length(), () -> twin.look(0, 8));
    }

    private static void dueDepth(String text, int want) {
        Twin twin = Check.twin(NONE, text);
        Check.due("look 6 of " + text, want, () -> twin.look(1, 6));
        Check.due("look 6 of the other", 0, () -> twin.look(0, 6));
    }

    private static void depths() {
        Check.sentence("DEPTH of a literal: the most gates on any way from it to inputs or variable 0.");
        dueDepth("aag 1 1 0 1 0\n2\n2\n", 0);
        dueDepth("aag 1 1 0 1 0\n2\n3\n", 0);
        dueDepth("aag 1 1 0 2 0\n2\n0\n1\n", 0);
        dueDepth("aag 2 1 0 1 1\n2\n4\n4 0 1\n", 1);
        dueDepth("aag 2 1 0 1 1\n2\n5\n4 2 2\n", 1);
        // one way of one gate, one of three
        dueDepth("aag 4 1 0 1 3\n2\n8\n8 2 6\n6 4 4\n4 2 2\n", 3);
        dueDepth("aag 4 1 0 1 3\n2\n8\n8 6 2\n6 4 4\n4 2 2\n", 3);
        dueDepth("aag 4 1 0 1 3\n2\n9\n8 7 0\n6 1 5\n4 2 2\n", 3);
        for (int gates : new int[] {1, 2, 299, 300}) {
            dueDepth(Texts.chain(false, gates, 0, 1, gates), gates);
            dueDepth(Texts.chain(true, 14 + gates, 14, 16, gates), gates);
        }
    }

    private static void depthOfOutputs() {
        Check.sentence("6 the greatest depth of its outputs (0 without any)");
        dueDepth(NONE, 0);
        dueDepth(Texts.chain(false, 300, 0, 0, 300), 0);
        dueDepth(Texts.chain(true, 3, 1, 0, 2), 0);
        String gates = "4 2 2\n6 4 4\n8 6 6\n";
        dueDepth("aag 4 1 0 1 3\n2\n4\n" + gates, 1);
        dueDepth("aag 4 1 0 3 3\n2\n8\n4\n6\n" + gates, 3);
        dueDepth("aag 4 1 0 3 3\n2\n4\n9\n6\n" + gates, 3);
        dueDepth("aag 4 1 0 3 3\n2\n4\n2\n7\n" + gates, 2);
        Twin twin = Check.twin("aag 4 1 0 1 3\n2\n9\n" + gates, NONE);
        Check.due("a wrong load", 1, () -> twin.load(0));
        Check.due("look 6 stays", 3, () -> twin.look(0, 6));
        Check.due("a right load of no outputs", 0, () -> Check.load(twin, 0, NONE));
        Check.due("look 6 of no outputs", 0, () -> twin.look(0, 6));
    }

    private static void dueLeaders(String text, int[][] rows) {
        Twin twin = Check.twin(NONE, text);
        for (int[] row : rows) {
            Check.due("leader of " + row[0] + " in " + text, row[1], () -> twin.leader(1, row[0]));
            Check.due("leader of its inverse", row[1] ^ 1, () -> twin.leader(1, row[0] ^ 1));
        }
    }

    private static void leadersByDepth() {
        Check.sentence("the one whose variable has the least depth");
        // variable 9 of depth 1 leads 3 of depth 2 and 4 of depth 3
        dueLeaders("aag 9 2 0 0 3\n2\n4\n6 18 2\n8 6 18\n18 2 4\n", new int[][] {{18, 18}, {6, 18}, {8, 18}});
        // an input leads gates of lesser variables, variable 0 leads all that are never 1
        dueLeaders("aag 9 1 0 0 3\n18\n2 18 18\n4 3 3\n6 18 2\n", new int[][] {{18, 18}, {2, 18}, {4, 19}, {6, 18}});
        dueLeaders("aag 9 1 0 0 3\n18\n2 18 19\n4 3 3\n6 0 1\n", new int[][] {{0, 0}, {2, 0}, {4, 1}, {6, 0}, {18, 18}});
        dueLeaders("aag 3 0 0 0 3\n2 1 1\n4 0 0\n6 3 4\n", new int[][] {{2, 1}, {4, 0}, {6, 0}});
        // a chain of 300: all of them are led by its beginning
        dueLeaders(Texts.chain(true, 301, 1, 0, 300), new int[][] {{2, 2}, {4, 2}, {600, 2}, {602, 2}});
    }

    private static void leadersOfOneDepth() {
        Check.sentence("of these the least");
        dueLeaders("aag 9 2 0 0 3\n2\n4\n18 2 4\n16 4 2\n10 2 4\n", new int[][] {{18, 10}, {16, 10}, {10, 10}});
        // XOR and its inverse, of depth 2 both, once the one and once the other the less
        String parts = "6 2 4\n8 3 5\n10 2 5\n12 3 4\n";
        dueLeaders("aag 8 2 0 0 6\n2\n4\n" + parts + "14 7 9\n16 11 13\n", new int[][] {{14, 14}, {16, 15}});
        dueLeaders("aag 8 2 0 0 6\n2\n4\n" + parts + "16 7 9\n14 11 13\n", new int[][] {{14, 14}, {16, 15}});
        dueLeaders("aag 8 2 0 0 6\n2\n4\n" + parts + "14 11 13\n16 7 9\n", new int[][] {{14, 14}, {16, 15}});
    }

    private static void leadersOfWhatStands() {
        Check.sentence("of all literals of its circuit with the same function whose variables stand for something (or are 0)");
        dueLeaders("aag 1000 0 0 0 1\n2000 0 1\n", new int[][] {{0, 0}, {2000, 0}});
        dueLeaders("aag 1000 1 0 0 1\n1998\n2000 1998 1998\n", new int[][] {{1998, 1998}, {2000, 1998}});
        // the other circuit's literals do not count
        Twin twin = Check.twin("aag 3 2 0 0 1\n2\n4\n6 2 4\n", "aag 9 2 0 0 1\n2\n4\n18 2 4\n");
        Check.due("leader in circuit 0", 6, () -> twin.leader(0, 6));
        Check.due("leader in circuit 1", 18, () -> twin.leader(1, 18));
        for (int literal : new int[] {-1, 6, 7, 16, 17, 20, Integer.MIN_VALUE, Integer.MAX_VALUE}) {
            Check.due("leader of " + literal, Check.ARGUMENT, () -> twin.leader(1, literal));
        }
    }

    private static void leftOut() {
        Check.sentence("each gate is left out whose leader (of its literal that is not inverted) is not itself");
        due("aag 4 2 0 2 2\n2\n4\n6\n8\n6 2 4\n8 4 2\n", false, true, "aag 3 2 0 2 1\n2\n4\n6\n6\n6 4 2\n");
        due("aag 3 1 0 2 2\n2\n4\n7\n4 2 2\n6 2 3\n", false, true, "aag 1 1 0 2 0\n2\n2\n1\n");
        due("aag 3 1 0 2 2\n2\n4\n7\n4 2 2\n6 2 3\n", true, true, "aig 1 1 0 2 0\n2\n1\n");
        for (int gates : new int[] {1, 299, 300}) {
            due(Texts.chain(false, gates, 0, 1, gates), false, true, "aag 0 0 0 1 0\n0\n");
            due(Texts.chain(true, 14 + gates, 14, 1, gates), true, true, "aig 14 14 0 1 0\n28\n");
        }
        // no doubles: reduced it is as it was
        due("aag 3 2 0 1 1\n2\n4\n7\n6 4 2\n", false, true, "aag 3 2 0 1 1\n2\n4\n7\n6 4 2\n");
    }

    private static void becomeLeaders() {
        Check.sentence("the literals of the others, and the outputs, become their leaders.");
        // 8 is 6 again, 10 is 6 inverted; 12 is the AND of 11 and input 3
        String text = "aag 6 3 0 3 3\n2\n4\n6\n12\n11\n10\n8 2 4\n10 9 9\n12 11 6\n";
        due(text, false, false, "aag 6 3 0 3 3\n2\n4\n6\n12\n11\n10\n8 4 2\n10 9 9\n12 11 6\n");
        due(text, false, true, "aag 5 3 0 3 2\n2\n4\n6\n10\n8\n9\n8 4 2\n10 8 6\n");
        due(text, true, true, "aig 5 3 0 3 2\n10\n8\n9\n\4\2\2\2");
    }

    private static void reducedDepths() {
        Check.sentence("TO WRITE a circuit (reduced first, if so: its gates, depths and ways are those behind that)");
        // 5 rests on 7, which is 4 again: it has depth 3 first, 2 when reduced, and so comes before 6
        String text = "aag 8 3 0 2 5\n2\n4\n6\n12\n10\n8 2 4\n14 8 2\n10 14 6\n12 8 7\n16 2 6\n";
        due(text, false, false, "aag 7 3 0 2 4\n2\n4\n6\n10\n14\n8 4 2\n10 8 7\n12 8 2\n14 12 6\n");
        due(text, false, true, "aag 6 3 0 2 3\n2\n4\n6\n12\n10\n8 4 2\n10 8 6\n12 8 7\n");
        // the one way to gate 8 goes through a gate that is left out
        String ways = "aag 5 2 0 1 3\n2\n4\n10\n6 2 4\n8 6 7\n10 8 2\n";
        due(ways, false, false, "aag 5 2 0 1 3\n2\n4\n10\n6 4 2\n8 7 6\n10 8 2\n");
        due(ways, false, true, "aag 2 2 0 1 0\n2\n4\n0\n");
    }

    private static void gatesOnWays() {
        Check.sentence("the gates alone that are on ways from outputs");
        String gates = "6 2 4\n8 6 3\n10 8 5\n12 6 5\n";
        due("aag 6 2 0 0 4\n2\n4\n" + gates, false, false, "aag 2 2 0 0 0\n2\n4\n");
        due("aag 6 2 0 1 4\n2\n4\n2\n" + gates, false, false, "aag 2 2 0 1 0\n2\n4\n2\n");
        due("aag 6 2 0 1 4\n2\n4\n6\n" + gates, false, false, "aag 3 2 0 1 1\n2\n4\n6\n6 4 2\n");
        due("aag 6 2 0 1 4\n2\n4\n13\n" + gates, false, false, "aag 4 2 0 1 2\n2\n4\n9\n6 4 2\n8 6 5\n");
        due("aag 6 2 0 1 4\n2\n4\n11\n" + gates, false, false, "aag 5 2 0 1 3\n2\n4\n11\n6 4 2\n8 6 3\n10 8 5\n");
        due("aag 6 2 0 2 4\n2\n4\n10\n12\n" + gates, false, false, "aag 6 2 0 2 4\n2\n4\n12\n10\n6 4 2\n8 6 3\n10 6 5\n12 8 5\n");
        due(Texts.chain(true, 314, 14, 0, 300), false, false, Texts.chain(false, 14, 14, 0, 0));
        due(Texts.chain(true, 314, 14, 16, 300), true, false, Texts.chain(true, 314, 14, 16, 300));
        due(Texts.chain(true, 314, 14, 16, 300), false, false, Texts.chain(false, 314, 14, 16, 300));
    }

    private static void numbersByDepth() {
        Check.sentence("numbered by their depths, those of one depth by their variables");
        // depth 1: variables 9 and 4, depth 2: 8 and 3, told in another order
        String text = "aag 9 2 0 2 4\n2\n4\n6\n16\n16 8 18\n18 2 4\n6 18 9\n8 3 5\n";
        due(text, false, false, "aag 6 2 0 2 4\n2\n4\n10\n12\n6 5 3\n8 4 2\n10 8 7\n12 8 6\n");
        due(text, true, false, "aig 6 2 0 2 4\n10\n12\n\1\2\4\2\2\1\4\2");
        // 3 rests on 8 alone, which is of depth 1 as 9 is: 3 comes behind both
        due("aag 9 2 0 2 3\n2\n4\n6\n18\n6 16 2\n16 2 4\n18 3 5\n", false, false,
                "aag 5 2 0 2 3\n2\n4\n10\n8\n6 4 2\n8 5 3\n10 6 2\n");
        Check.sentence("An aag's gates come in the order of their numbers.");
        due("aag 5 1 0 1 4\n2\n10\n10 8 8\n8 6 6\n6 4 4\n4 2 2\n", false, false, Texts.chain(false, 5, 1, 1, 4));
        // a double of depth 300 does not hold up the one of depth 1 with the greatest variable
        String last = Texts.chain(false, 300, 0, 1, 300).replace("600 598 598\n", "600 1 1\n");
        due(last, false, false, "aag 1 0 0 1 1\n2\n2 1 1\n");
    }

    private static void inputsFirst() {
        Check.sentence("input k is variable k + 1, gates follow");
        due("aag 9 3 0 3 1\n18\n2\n12\n12\n3\n18\n4 2 18\n", false, false, "aag 3 3 0 3 0\n2\n4\n6\n6\n5\n2\n");
        due("aag 9 3 0 1 1\n18\n2\n12\n5\n4 2 18\n", false, false, "aag 4 3 0 1 1\n2\n4\n6\n9\n8 4 2\n");
        due("aag 9 3 0 1 1\n18\n2\n12\n5\n4 2 18\n", true, false, "aig 4 3 0 1 1\n9\n\4\2");
    }

    private static void sizesWritten() {
        Check.sentence("M is I + A; L 0");
        due(NONE, false, false, NONE);
        due("aag 1000 0 0 0 0\n", false, false, NONE);
        due("aag 1000 0 0 0 0\n", true, false, "aig 0 0 0 0 0\n");
        due("aag 1000 1 0 1 1\n1000\n2000\n2000 1000 1\n", true, false, "aig 2 1 0 1 1\n4\n\2\1");
        due(Texts.chain(false, 1000, 14, 16, 0), true, false, Texts.chain(true, 14, 14, 16, 0));
    }

    private static void greaterFirst() {
        Check.sentence("of a gate's two literals the greater one (by the new numbers) first");
        due("aag 3 2 0 1 1\n2\n4\n6\n6 2 4\n", false, false, "aag 3 2 0 1 1\n2\n4\n6\n6 4 2\n");
        due("aag 3 2 0 1 1\n4\n2\n6\n6 4 2\n", false, false, "aag 3 2 0 1 1\n2\n4\n6\n6 4 2\n");
        due("aag 3 2 0 1 1\n4\n2\n6\n6 2 4\n", true, false, "aig 3 2 0 1 1\n6\n\2\2");
        due("aag 2 1 0 1 1\n2\n4\n4 2 3\n", false, false, "aag 2 1 0 1 1\n2\n4\n4 3 2\n");
        due("aag 2 1 0 1 1\n2\n4\n4 3 3\n", true, false, "aig 2 1 0 1 1\n4\n\1\0");
        due("aag 2 1 0 1 1\n2\n4\n4 1 2\n", false, false, "aag 2 1 0 1 1\n2\n4\n4 2 1\n");
        due("aag 2 1 0 1 1\n2\n4\n4 0 1\n", false, false, "aag 2 1 0 1 1\n2\n4\n4 1 0\n");
        due("aag 2 1 0 1 1\n2\n4\n4 0 0\n", true, false, "aig 2 1 0 1 1\n4\n\4\0");
    }

    /** Numbers of one, two and three digits, in each place that has them. */
    private static void digits() {
        Check.sentence("A NUMBER in it: decimal digits");
        for (int gates : new int[] {4, 5, 9, 10, 48, 49, 50, 99, 100, 299, 300}) {
            due(Texts.chain(true, gates, 0, 1, gates), false, false, Texts.chain(false, gates, 0, 1, gates));
            due(Texts.chain(true, gates + 1, 1, 1, gates), false, false, Texts.chain(false, gates + 1, 1, 1, gates));
            due(Texts.chain(false, gates + 14, 14, 1, gates), true, false, Texts.chain(true, gates + 14, 14, 1, gates));
        }
        for (int count : new int[] {1, 9, 10, 14}) {
            due(Texts.chain(true, count, count, count, 0), false, false, Texts.chain(false, count, count, count, 0));
        }
        due(Texts.chain(true, 1, 1, 16, 0), false, false, Texts.chain(false, 1, 1, 16, 0));
    }

    /** Chains whose gates are the AND of the one before and 1, the last one of that and 0, 1 or 2: ever longer second steps. */
    private static void stepsWritten() {
        Check.sentence("A step is one byte below 128, or two: the first one less 128, and 128 times the second one (1 to 127).");
        for (int gates : new int[] {62, 63, 64, 65, 126, 127, 128, 129, 298, 299}) {
            for (int lesser = 0; lesser < 3; lesser++) {
                int own = 2 * gates + 4;
                int greater = own - 2;
                String begin = " " + (gates + 2) + " 1 0 1 " + (gates + 1) + "\n";
                StringBuilder aag = new StringBuilder("aag" + begin + "2\n" + own + "\n");
                StringBuilder aig = new StringBuilder("aig" + begin + own + "\n");
                for (int k = 1; k <= gates; k++) {
                    aag.append(2 * k + 2 + " " + 2 * k + " 1\n");
                    aig.append(Texts.step(2)).append(Texts.step(2 * k - 1));
                }
                aag.append(own + " " + greater + " " + lesser + "\n");
                aig.append(Texts.step(2)).append(Texts.step(greater - lesser));
                due(aag.toString(), true, false, aig.toString());
                due(aig.toString(), false, false, aag.toString());
            }
        }
        longFirstSteps();
    }

    /** Many gates of one depth, each the AND of the one input and 1: the first steps go from 2 on to the greatest one. */
    private static void longFirstSteps() {
        StringBuilder text = new StringBuilder("aag 300 1 0 1 299\n2\n600\n");
        StringBuilder due = new StringBuilder();
        int leaves = 150;
        for (int k = 0; k < leaves; k++) {
            text.append(4 + 2 * k + " 2 1\n");
            due.append(Texts.step(2 + 2 * k)).append(Texts.step(1));
        }
        // the first of the others rests on the first two leaves, each next one on that before and the next leaf
        for (int k = 0; k < leaves - 1; k++) {
            int own = 4 + 2 * leaves + 2 * k;
            int left = k == 0 ? 4 : own - 2;
            int right = 6 + 2 * k;
            text.append(own + " " + left + " " + right + "\n");
            int greater = Math.max(left, right);
            due.append(Texts.step(own - greater)).append(Texts.step(greater - Math.min(left, right)));
        }
        due(text.toString(), true, false, "aig 300 1 0 1 299\n600\n" + due);
        due("aig 300 1 0 1 299\n600\n" + due, true, false, "aig 300 1 0 1 299\n600\n" + due);
    }

    private static void emptyOut() {
        Check.sentence("Two first circuits; OUT is empty.");
        Twin twin = new Twin();
        Check.due("look 8", 0, () -> twin.look(0, 8));
        Check.due("look 8 of the other", 0, () -> twin.look(1, 8));
        for (int k : new int[] {0, 1, -1, 8, -8, Integer.MAX_VALUE, Integer.MIN_VALUE}) {
            Check.due("out " + k, Check.ELEMENT, () -> twin.out(k));
        }
        Check.due("a refused write", Check.ARGUMENT, () -> twin.write(2, false, false));
        Check.due("look 8 behind it", 0, () -> twin.look(0, 8));
        Check.due("a load", 0, () -> Check.load(twin, 0, "aag 1 1 0 1 0\n2\n2\n"));
        Check.due("OUT is empty still", Check.ELEMENT, () -> twin.out(0));
        Check.due("write of a first circuit", 14, () -> twin.write(1, false, false));
        Check.due("its text", NONE, () -> Check.outText(twin));
    }

    private static void latestOut() {
        Check.sentence("OUT the text that was written latest");
        Twin twin = Check.twin(Texts.full(), NONE);
        int longest = twin.write(0, false, false);
        Check.due("look 8 of the longest", longest, () -> twin.look(1, 8));
        Check.due("a short one", 14, () -> twin.write(1, true, true));
        Check.due("its text", "aig 0 0 0 0 0\n", () -> Check.outText(twin));
        Check.due("0 behind its end", 0x0A3020L, () -> twin.out(11));
        Check.due("nothing behind it", Check.ELEMENT, () -> twin.out(14));
        Check.due("nothing of the longest", Check.ELEMENT, () -> twin.out(longest - 1));
        Check.due("the longest again", longest, () -> twin.write(0, false, false));
        Check.due("its last byte", 10L, () -> twin.out(longest - 1));
        Check.due("a load", 0, () -> Check.load(twin, 0, NONE));
        Check.due("OUT stays behind a load", longest, () -> twin.look(0, 8));
        Check.due("its last byte stays", 10L, () -> twin.out(longest - 1));
    }

    private static void eightBytes() {
        Check.sentence("Eight bytes of OUT from k on, lowest first (0 behind its end).");
        Twin twin = Check.twin("aig 66 1 0 1 65\n132\n" + "\2\1".repeat(64) + "\202\1\1", NONE);
        // the last gate is the AND of 2 and 1 alone, so nothing else is needed
        Check.due("bytes", 18, () -> twin.write(0, true, false));
        dueEveryByte(twin, Check.bytes("aig 2 1 0 1 1\n4\n\2\1"));
        Twin high = Check.twin("aig 66 1 0 1 65\n132\n" + "\2\0".repeat(64) + "\2\200\1", NONE);
        Check.due("bytes with a long step", 151, () -> high.write(0, true, false));
        dueEveryByte(high, Check.bytes("aig 66 1 0 1 65\n132\n" + "\2\0".repeat(64) + "\2\200\1"));
    }

    private static void dueEveryByte(Twin twin, byte[] text) {
        Check.due("the length", text.length, () -> twin.look(0, 8));
        for (int k = 0; k < text.length; k++) {
            int at = k;
            long due = 0;
            for (int i = 7; i >= 0; i--) {
                due = due << 8 | (k + i < text.length ? text[k + i] & 255 : 0);
            }
            Check.due("out " + k, due, () -> twin.out(at));
        }
        Check.sentence("Throws NoSuchElementException when there is no byte k.");
        int length = text.length;
        for (int k : new int[] {-1, -2, -8, length, length + 1, 2 * length, 4095, 4096, 8192, Integer.MAX_VALUE, Integer.MAX_VALUE - 7, Integer.MIN_VALUE}) {
            Check.due("out " + k, k >= 0 && k < length ? 0L : Check.ELEMENT, () -> twin.out(k));
        }
        Check.sentence("Eight bytes of OUT from k on, lowest first (0 behind its end).");
    }

    /** As many bytes as a text can have: every number as long as can be, gates and outputs of the last variables. */
    private static void longestOut() {
        Check.sentence("OUT becomes the circuit's text (without gates that no output needs), as aig or as aag, reduced or as it is: how many bytes.");
        StringBuilder aag = new StringBuilder("aag 314 14 0 16 300\n");
        StringBuilder aig = new StringBuilder("aig 314 14 0 16 300\n");
        for (int k = 1; k <= 14; k++) {
            aag.append(2 * k + "\n");
        }
        for (int k = 0; k < 16; k++) {
            aag.append("629\n");
            aig.append("629\n");
        }
        for (int own = 30; own <= 628; own += 2) {
            aag.append(own + " " + (own - 1) + " " + (own - 1) + "\n");
            aig.append("\1\0");
        }
        due(aag.toString(), false, false, aag.toString());
        due(aag.toString(), true, false, aig.toString());
        due(aig.toString(), false, false, aag.toString());
        due(aag.toString(), false, true, "aag 14 14 0 16 0\n" + aag.substring(20, 58) + "29\n".repeat(16));
        Twin twin = Check.twin(aig.toString(), NONE);
        int length = aag.length();
        Check.due("bytes", length, () -> twin.write(0, false, false));
        Check.due("the last byte", 10L, () -> twin.out(length - 1));
        Check.due("the last eight", 0x0A37323620373236L, () -> twin.out(length - 8));
        Check.due("the last seven", 0x0A373236203732L, () -> twin.out(length - 7));
        Check.due("one too far", Check.ELEMENT, () -> twin.out(length));
        byte[] model = Model.read(Texts.full()).write(true);
        Twin full = Check.twin(NONE, Texts.full());
        Check.due("a full aig", model.length, () -> full.write(1, true, false));
        Check.due("its text", new String(model, StandardCharsets.ISO_8859_1), () -> Check.outText(full));
        byte[] small = Model.read(Texts.full()).reduced().write(false);
        Check.due("a full one reduced", small.length, () -> full.write(1, false, true));
        Check.due("its text", true, () -> Arrays.equals(small, Check.outBytes(full)));
    }

    private static void looks() {
        Check.sentence("7 bytes of the tape, 8 bytes of OUT (of both alike)");
        Twin twin = Check.twin("aag 3 2 0 1 1\n2\n4\n6\n6 4 2\n", NONE);
        twin.feed(5, 0);
        twin.write(0, false, false);
        for (int circuit = 0; circuit < 2; circuit++) {
            int c = circuit;
            Check.due("tape", 5, () -> twin.look(c, 7));
            Check.due("OUT", 26, () -> twin.look(c, 8));
        }
        Check.sentence("4 the error of the latest load of it (0 before, or if it was right), 5 its place (0 without one)");
        Check.due("a wrong load of 0", 1, () -> twin.load(0));
        Check.due("another", 7, () -> Check.load(twin, 0, "aag 9 0 0 1 0\n18\n"));
        Check.due("its error", 7, () -> twin.look(0, 4));
        Check.due("its place", 9, () -> twin.look(0, 5));
        Check.due("no error of 1", 0, () -> twin.look(1, 4));
        Check.due("no place of 1", 0, () -> twin.look(1, 5));
        Check.due("an error without a place", 4, () -> Check.load(twin, 0, "aag 0 0 0 0 1\n"));
        Check.due("its error", 4, () -> twin.look(0, 4));
        Check.due("its place", 0, () -> twin.look(0, 5));
        Check.due("a right load of 1", 0, () -> Check.load(twin, 1, NONE));
        Check.due("the error of 0 stays", 4, () -> twin.look(0, 4));
        Check.due("a right load of 0", 0, () -> Check.load(twin, 0, NONE));
        Check.due("no error", 0, () -> twin.look(0, 4));
        Check.sentence("Throws IllegalArgumentException also for another what (when there is no such circuit for all of them).");
        for (int what : new int[] {-1, 9, 10, 256, -8, Integer.MAX_VALUE, Integer.MIN_VALUE}) {
            Check.due("look " + what, Check.ARGUMENT, () -> twin.look(0, what));
            Check.due("look " + what + " of 1", Check.ARGUMENT, () -> twin.look(1, what));
        }
        for (int what = 0; what <= 8; what++) {
            int asked = what;
            Check.due("look " + what, false, () -> Check.answerOf(() -> twin.look(1, asked)) instanceof String);
            for (int circuit : new int[] {-1, 2, Integer.MAX_VALUE, Integer.MIN_VALUE}) {
                Check.due("look " + what + " of " + circuit, Check.ARGUMENT, () -> twin.look(circuit, asked));
            }
        }
    }
}
