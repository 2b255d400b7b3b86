/** The errors 3 to 8: what each asks for exactly, and of several the one that is met first. */
final class ErrorOrderTest {
    public static void main(String[] args) {
        latches();
        ownLiterals();
        otherLiterals();
        formBeforeLiterals();
        gatesOneByOne();
        nothing();
        loops();
        onlyLeading();
        behindAllOthers();
        firstMet();
        Check.end();
    }

    private static void due(String text, int error, int place) {
        Check.dueLoad(text, error, place);
    }

    private static void latches() {
        Check.sentence("3 L is not 0 (whatever the others are)");
        for (String kind : new String[] {"aag ", "aig "}) {
            for (String number : new String[] {"1", "2", "999999999"}) {
                due(kind + "0 0 " + number + " 0 0\n", 3, 0);
                due(kind + "1 0 " + number + " 0 0\n", 3, 0);
                due(kind + "1001 15 " + number + " 17 301\n", 3, 0);
                due(kind + "0 999999999 " + number + " 999999999 999999999\n", 3, 0);
                due(kind + "0 0 " + number + " 0 0\n\n", 3, 0);
                due(kind + "0 0 " + number + " 0 0", 2, 12 + number.length());
                due(kind + "0 0 " + number + " 0 00\n", 2, 12 + number.length());
            }
            due(kind + "0 0 0 0 0\n", 0, 0);
        }
    }

    /** An input's or a gate's literal with M 5, where variable 3 stands for an input already. */
    private static void ownLiterals() {
        Check.sentence("an input or a gate whose literal is odd, 0 or 1, above 2 * M + 1, or of a variable that stands for one already");
        int[] right = {2, 4, 8, 10};
        int[] wrong = {0, 1, 3, 5, 6, 7, 9, 11, 12, 13, 14, 100, 999999998, 999999999};
        String[][] around = {{"aag 5 2 0 0 0\n6\n", "\n"}, {"aag 5 1 0 0 1\n6\n", " 6 7\n"}, {"aag 5 0 0 0 2\n6 1 1\n", " 1 1\n"}};
        for (String[] row : around) {
            for (int literal : right) {
                due(row[0] + literal + row[1], 0, 0);
            }
            for (int literal : wrong) {
                due(row[0] + literal + row[1], 6, row[0].length());
            }
        }
        // the first of its kind, where nothing stands yet
        due("aag 1 1 0 0 0\n2\n", 0, 0);
        due("aag 1 1 0 0 0\n3\n", 6, 14);
        due("aag 1 1 0 0 0\n4\n", 6, 14);
        due("aag 1 0 0 0 1\n2 1 1\n", 0, 0);
        due("aag 1 0 0 0 1\n3 1 1\n", 6, 14);
        due("aag 1 0 0 0 1\n4 1 1\n", 6, 14);
        // a variable that an output uses alone does not stand for one yet
        due("aag 1 0 0 1 1\n2\n2 1 1\n", 0, 0);
    }

    private static void otherLiterals() {
        Check.sentence("any other literal above 2 * M + 1");
        String[][] around = {{"aag 5 5 0 1 0\n2\n4\n6\n8\n10\n", "\n"}, {"aig 5 5 0 1 0\n", "\n"}, {"aag 5 5 0 2 0\n2\n4\n6\n8\n10\n11\n", "\n"},
            {"aag 5 4 0 0 1\n2\n4\n6\n10\n8 ", " 0\n"}, {"aag 5 4 0 0 1\n2\n4\n6\n10\n8 0 ", "\n"}};
        for (String[] row : around) {
            for (int literal : new int[] {0, 1, 2, 3, 10, 11}) {
                due(row[0] + literal + row[1], 0, 0);
            }
            for (int literal : new int[] {12, 13, 14, 999999999}) {
                due(row[0] + literal + row[1], 6, row[0].length());
            }
        }
        due("aag 0 0 0 1 0\n1\n", 0, 0);
        due("aag 0 0 0 1 0\n2\n", 6, 14);
        due("aig 0 0 0 1 0\n2\n", 6, 14);
    }

    private static void formBeforeLiterals() {
        Check.sentence("A line's form is read as a whole before its literals, from left to right");
        due("aag 2 1 0 0 1\n2\n9 9 9", 5, 21);
        due("aag 2 1 0 0 1\n2\n9 9 9 \n", 5, 21);
        due("aag 2 1 0 0 1\n2\n9 9 09\n", 5, 21);
        due("aag 2 1 0 0 1\n2\n9 9\n", 5, 19);
        due("aag 1 1 0 0 0\n9", 5, 15);
        due("aag 1 1 0 0 0\n9 \n", 5, 15);
        due("aag 0 0 0 1 0\n9 \n", 5, 15);
        due("aag 2 1 0 0 1\n2\n9 9 9\n", 6, 16);
        due("aag 2 1 0 0 1\n2\n4 9 9\n", 6, 18);
        due("aag 2 1 0 0 1\n2\n4 2 9\n", 6, 20);
        due("aag 2 1 0 0 1\n2\n4 2 5\n", 8, 2);
    }

    private static void gatesOneByOne() {
        Check.sentence("gates one by one, each with all that is told of it");
        due("aag 3 1 0 0 2\n2\n4 2 9\n7 2 2\n", 6, 20);
        due("aag 3 1 0 0 2\n2\n4 2 9\n6 2\n", 6, 20);
        due("aag 3 1 0 0 2\n2\n4 2 2\n6 2\n", 5, 25);
        due("aag 3 1 0 0 2\n2\n4 2 2\n4 9 9\n", 6, 22);
        // a gate's own literal stands when its two are looked at: the text is right up to there
        due("aag 3 1 0 0 2\n2\n4 4 4\n6 9 2\n", 6, 24);
        due("aig 3 1 0 0 2\n\2\3\200", 6, 15);
        due("aig 3 1 0 0 2\n\2\2\200", 5, 17);
        due("aig 3 1 0 0 2\n\0\200\0\0\0", 6, 14);
        // inputs come before outputs, and these before gates
        due("aag 2 1 0 1 1\n3\n9\n9 9 9\n", 6, 14);
        due("aag 2 1 0 1 1\n2\n9\n9 9 9\n", 6, 16);
        due("aag 2 1 0 1 1\n2\n2\n9 9 9\n", 6, 18);
        due("aag 2 2 0 0 0\n3\n4 \n", 6, 14);
        due("aag 2 1 0 2 0\n2\n9\n4 \n", 6, 16);
        due("aag 2 1 0 2 0\n2\n4 \n9\n", 5, 17);
    }

    private static void nothing() {
        Check.sentence("7 an output or a gate uses a variable that stands for nothing (place: the least such variable)");
        due("aag 9 1 0 1 0\n2\n4\n", 7, 2);
        due("aag 9 1 0 1 0\n2\n5\n", 7, 2);
        due("aag 9 1 0 1 0\n2\n18\n", 7, 9);
        due("aag 9 1 0 1 0\n2\n19\n", 7, 9);
        due("aag 9 1 0 0 1\n2\n4 6 2\n", 7, 3);
        due("aag 9 1 0 0 1\n2\n4 2 7\n", 7, 3);
        due("aag 9 1 0 3 2\n2\n18\n16\n14\n4 12 10\n6 17 8\n", 7, 4);
        due("aag 9 1 0 3 2\n2\n18\n8\n14\n4 12 10\n6 17 16\n", 7, 4);
        due("aag 9 1 0 3 2\n2\n18\n16\n14\n4 8 10\n6 17 16\n", 7, 4);
        due("aag 1000 0 0 1 0\n2\n", 7, 1);
        due("aag 1000 0 0 1 0\n2000\n", 7, 1000);
        due("aag 1000 0 0 1 0\n2001\n", 7, 1000);
        // variables that nothing uses may stand for nothing, and variable 0 never does
        due("aag 1000 0 0 2 1\n0\n1\n1998 0 1\n", 0, 0);
        // a gate's variable stands, wherever in the text its line comes
        due("aag 3 1 0 1 2\n2\n6\n6 4 2\n4 2 2\n", 0, 0);
    }

    private static void loops() {
        Check.sentence("8 a gate, whether outputs need it or not, is come to again from itself by the literals that gates are made of");
        for (String outputs : new String[] {" 0", " 1", " 2"}) {
            String needed = outputs.equals(" 0") ? "" : outputs.equals(" 1") ? "2\n" : "2\n6\n";
            for (String two : new String[] {"6 2", "2 6", "7 2", "2 7", "6 6", "7 7", "6 7", "6 0", "0 7"}) {
                due("aag 3 1 0" + outputs + " 1\n2\n" + needed + "6 " + two + "\n", 8, 3);
            }
            due("aag 3 1 0" + outputs + " 1\n2\n" + needed + "6 2 3\n", 0, 0);
        }
        // a loop of two, of three, and two ways to the same gate that are none
        due("aag 3 1 0 0 2\n2\n6 5 2\n4 7 2\n", 8, 2);
        due("aag 4 1 0 0 3\n2\n8 5 2\n4 7 2\n6 9 2\n", 8, 2);
        due("aag 4 1 0 0 3\n2\n8 7 5\n4 2 2\n6 5 5\n", 0, 0);
        due(Texts.chain(false, 300, 0, 1, 300), 0, 0);
        due(turnedChain(300, 0), 0, 0);
        due(turnedChain(300, 600), 8, 1);
        due(turnedChain(300, 2), 8, 1);
        // from each gate to the next by both of its literals: a million ways and more, but few gates
        StringBuilder ring = new StringBuilder("aag 300 0 0 0 300\n");
        for (int k = 1; k <= 300; k++) {
            ring.append(2 * k + " " + (2 * (k % 300) + 2) + " " + (2 * (k % 300) + 3) + "\n");
        }
        due(ring.toString(), 8, 1);
    }

    /** Gate lines from the last one back; the first gate rests on a literal of its own. */
    private static String turnedChain(int gates, int last) {
        StringBuilder text = new StringBuilder("aag " + gates + " 0 0 0 " + gates + "\n");
        for (int k = gates; k >= 2; k--) {
            text.append(2 * k + " " + (2 * k - 2) + " 1\n");
        }
        return text.append("2 " + last + " 1\n").toString();
    }

    private static void onlyLeading() {
        Check.sentence("place: the least variable of those gates; not of such as only lead to one");
        // 2 leads to the loop of 4 and 3, 5 is what it leads on to
        due("aag 5 1 0 1 4\n2\n4\n4 6 2\n6 8 10\n8 6 2\n10 2 2\n", 8, 3);
        due("aag 5 1 0 1 4\n2\n4\n10 2 2\n8 6 2\n6 8 10\n4 6 2\n", 8, 3);
        // the loop is of 9 alone, all others lead to it
        due("aag 9 0 0 0 9\n2 4 4\n4 6 6\n6 8 8\n8 10 10\n10 12 12\n12 14 14\n14 16 16\n16 18 18\n18 18 1\n", 8, 9);
        // loops of 8 and 9, and of 4 and 7: the least of all of them
        due("aag 9 1 0 0 6\n2\n16 18 2\n18 16 2\n8 14 2\n14 8 2\n4 8 16\n6 4 4\n", 8, 4);
        // two loops that share gate 5
        due("aag 5 1 0 0 4\n2\n4 10 2\n6 10 2\n8 2 2\n10 4 6\n", 8, 2);
        // one leads to the other: gate 2 is between loops of 3 and of 4
        due("aag 4 1 0 0 3\n2\n6 6 4\n4 8 2\n8 8 2\n", 8, 3);
    }

    private static void behindAllOthers() {
        Check.sentence("These two behind all others (the end, too)");
        String missing = "aag 9 1 0 1 1\n2\n18\n4 2 2\n";
        String loop = "aag 9 1 0 1 1\n2\n4\n4 4 2\n";
        due(missing, 7, 9);
        due(loop, 8, 2);
        due(missing + "x", 5, missing.length());
        due(missing + "c", 5, missing.length() + 1);
        due(loop + "x", 5, loop.length());
        due(loop + "cc", 5, loop.length() + 1);
        due("aag 9 1 0 1 2\n2\n18\n4 2 2\n5 2 2\n", 6, 25);
        due("aag 9 1 0 1 2\n2\n18\n4 4 2\n6 2\n", 5, 28);
        due("aag 9 1 0 1 2\n2\n4\n4 4 2\n6 20 2\n", 6, 26);
        // both: the one that the document has first
        due("aag 9 1 0 1 1\n2\n18\n4 4 2\n", 7, 9);
        due("aag 9 1 0 1 2\n2\n4\n4 4 2\n18 16 2\n", 7, 8);
    }

    private static void firstMet() {
        Check.sentence("ERRORS, the first that is met when the text is read from its beginning");
        due("aug 00 0 1 0 0\n", 1, 0);
        due("aag 00 0 1 0 0\n", 2, 5);
        due("aag 1001 0 1 0 00\n", 2, 16);
        due("aag 1001 0 1 0 0\nx", 3, 0);
        due("aag 1001 0 0 0 0\nx", 4, 0);
        due("aag 9 1 0 1 1\n02\n20\n5 2 2\nx", 5, 15);
        due("aag 9 1 0 1 1\n3\n02\n5 2 2\nx", 6, 14);
        due("aag 9 1 0 1 1\n2\n02\n5 2 2\nx", 5, 17);
        due("aag 9 1 0 1 1\n2\n20\n05 2 2\nx", 6, 16);
        due("aag 9 1 0 1 1\n2\n18\n5 2 2\nx", 6, 19);
        due("aag 9 1 0 1 1\n2\n18\n4 4 2\nx", 5, 25);
        due("aag 9 1 0 1 1\n2\n18\n4 4 2\n", 7, 9);
        due("aag 9 1 0 1 1\n2\n4\n4 4 2\n", 8, 2);
        due("aag 9 1 0 1 1\n2\n4\n4 2 2\n", 0, 0);
    }
}
