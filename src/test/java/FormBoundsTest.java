/** The section 'Terms', its second half: numbers, lines, steps and ends at their bounds, wherever a text has them. */
final class FormBoundsTest {
    public static void main(String[] args) {
        kinds();
        numbersOfFirstLine();
        blanksOfFirstLine();
        numbersOfLines();
        blanksOfLines();
        cutTexts();
        emptyTape();
        rightSteps();
        wrongSteps();
        stepsThatCannotBe();
        ends();
        behindEnd();
        anyOrder();
        Check.end();
    }

    private static void due(String text, int error, int place) {
        Check.dueLoad(text, error, place);
    }

    private static void kinds() {
        Check.sentence("1 the first four bytes are none of the two kinds' (place 0; also when there are fewer)");
        for (String kind : new String[] {"aag ", "aig "}) {
            due(kind + "0 0 0 0 0\n", 0, 0);
            due(kind, 2, 4);
            for (int length = 0; length < 4; length++) {
                due(kind.substring(0, length), 1, 0);
                for (int other : new int[] {kind.charAt(length) - 1, kind.charAt(length) + 1, 0, 255}) {
                    due(kind.substring(0, length) + (char) other + kind.substring(length + 1) + "0 0 0 0 0\n", 1, 0);
                }
            }
        }
        due("aag\n0 0 0 0 0\n", 1, 0);
        due("aag0 0 0 0 0\n", 1, 0);
        due("c\n", 1, 0);
    }

    private static void numbersOfFirstLine() {
        Check.sentence("A NUMBER in it: decimal digits, 9 at most, the first not 0 unless it is the only one.");
        for (int index = 0; index < 5; index++) {
            String before = "aag " + "0 ".repeat(index);
            String after = " 0".repeat(4 - index) + "\n";
            int at = before.length();
            int tooLarge = index == 2 ? 3 : 4;
            due(before + "0" + after, 0, 0);
            due(before + "99999999" + after, tooLarge, 0);
            due(before + "100000000" + after, tooLarge, 0);
            due(before + "999999999" + after, tooLarge, 0);
            due(before + "1000000000" + after, 2, at + 9);
            due(before + "9999999999" + after, 2, at + 9);
            due(before + "99999999999999999999" + after, 2, at + 9);
            due(before + "00" + after, 2, at + 1);
            due(before + "01" + after, 2, at + 1);
            due(before + "000000000" + after, 2, at + 1);
            due(before + after, 2, at);
        }
    }

    private static void blanksOfFirstLine() {
        Check.sentence("2 the rest of the first line is none (the first byte with which no such line goes on");
        for (int index = 0; index < 5; index++) {
            String before = "aig " + "0 ".repeat(index);
            String after = " 0".repeat(4 - index) + "\n";
            int at = before.length();
            for (String other : new String[] {"/", ":", "-", "+", "\t", "\r", "\n", " ", "\0", "\377", "\260", "a"}) {
                due(before + other, 2, at);
                due(before + other + "0" + after, 2, at);
                boolean goesOn = index < 4 ? other.equals(" ") : other.equals("\n");
                due(before + "0" + other + "\t", goesOn && index == 4 ? 5 : 2, goesOn ? at + 2 : at + 1);
            }
            due(before + "0", 2, at + 1);
        }
        due("aag 0 0 0 0 0 0\n", 2, 13);
    }

    /** Where a number of a line begins, what stands before and behind it: inputs, outputs, a gate's three. */
    private static final String[][] PLACES = {
        {"aag 1 1 0 0 0\n", "2", "\n"},
        {"aag 2 2 0 0 0\n4\n", "2", "\n"},
        {"aag 1 1 0 1 0\n2\n", "3", "\n"},
        {"aag 1 1 0 2 0\n2\n0\n", "3", "\n"},
        {"aig 1 1 0 1 0\n", "3", "\n"},
        {"aig 1 1 0 2 0\n2\n", "3", "\n"},
        {"aag 2 1 0 0 1\n2\n", "4", " 2 3\n"},
        {"aag 2 1 0 0 1\n2\n4 ", "2", " 3\n"},
        {"aag 2 1 0 0 1\n2\n4 2 ", "3", "\n"},
    };

    private static void numbersOfLines() {
        Check.sentence("A NUMBER in it: decimal digits, 9 at most, the first not 0 unless it is the only one.");
        for (String[] row : PLACES) {
            int at = row[0].length();
            due(row[0] + row[1] + row[2], 0, 0);
            due(row[0] + "100000000" + row[2], 6, at);
            due(row[0] + "999999999" + row[2], 6, at);
            due(row[0] + "1000000000" + row[2], 5, at + 9);
            due(row[0] + "4294967298" + row[2], 5, at + 9);
            due(row[0] + "0" + row[1] + row[2], 5, at + 1);
            due(row[0] + "00" + row[2], 5, at + 1);
            due(row[0] + row[2], 5, at);
        }
    }

    private static void blanksOfLines() {
        Check.sentence("A LINE: numbers, one blank (32) between, and a line's end (10).");
        for (String[] row : PLACES) {
            int at = row[0].length();
            int behind = at + row[1].length();
            for (String other : new String[] {"/", ":", "-", "\t", "\r", " ", "\0", "\377", "c"}) {
                due(row[0] + other + row[1] + row[2], 5, at);
                boolean goesOn = other.equals(" ") && row[2].charAt(0) == ' ';
                due(row[0] + row[1] + other + row[2], 5, goesOn ? behind + 1 : behind);
            }
            due(row[0], 5, at);
            due(row[0] + row[1], 5, behind);
        }
        // a line's end too early, and a number too many
        due("aag 2 1 0 0 1\n2\n4\n", 5, 17);
        due("aag 2 1 0 0 1\n2\n4 2\n", 5, 19);
        due("aag 2 1 0 0 1\n2\n4 2 3 3\n", 5, 21);
        due("aag 1 1 0 0 0\n2 2\n", 5, 15);
        due("aag 1 1 0 1 0\n2\n2 2\n", 5, 17);
    }

    private static void cutTexts() {
        Check.sentence("or how many bytes there are");
        String aag = "aag 13 2 0 2 2\n12\n4\n24\n27\n24 12 4\n26 24 25\n";
        String aig = "aig 66 1 0 1 65\n132\n" + "\2\0".repeat(64) + "\203\1\1";
        for (String text : new String[] {aag, aig}) {
            int firstLine = text.indexOf('\n') + 1;
            due(text, 0, 0);
            for (int length = 0; length < text.length(); length++) {
                int error = length < 4 ? 1 : length < firstLine ? 2 : 5;
                due(text.substring(0, length), error, error == 1 ? 0 : length);
            }
        }
    }

    private static void emptyTape() {
        Check.sentence("the first four bytes are none of the two kinds' (place 0; also when there are fewer)");
        Twin twin = new Twin();
        Check.due("load of an empty tape", 1, () -> twin.load(0));
        Check.due("look 4", 1, () -> twin.look(0, 4));
        Check.due("look 5", 0, () -> twin.look(0, 5));
        Check.due("load of it again", 1, () -> twin.load(1));
        Check.due("look 7", 0, () -> twin.look(0, 7));
    }

    private static final int CHAIN = 300;

    /** A chain of gates of no inputs, the last of which has steps of its own and is the one output. */
    private static String withLast(int variables, String steps) {
        String text = Texts.chain(true, variables, 0, 1, variables);
        return text.substring(0, text.length() - 2) + steps;
    }

    private static void rightSteps() {
        Check.sentence("A step is one byte below 128, or two: the first one less 128, and 128 times the second one (1 to 127).");
        int own = 2 * CHAIN;
        int[] bounds = {0, 1, 2, 126, 127, 128, 129, 254, 255, 256, 257, 383, 384, 385, 511, 512, 513, 598, 599, 600};
        for (int p : bounds) {
            for (int q : bounds) {
                if (p > 0 && p + q <= own) {
                    rightStep(own, p, q);
                }
            }
        }
    }

    private static void rightStep(int own, int p, int q) {
        Twin twin = new Twin();
        String name = "steps " + p + " and " + q;
        Check.due(name, 0, () -> Check.load(twin, 0, withLast(own / 2, Texts.step(p) + Texts.step(q))));
        // what the gate rests on alone is written, so it becomes the variable behind its greater literal's
        int left = own - p;
        int gates = left / 2 + 1;
        String chain = Texts.chain(false, gates, 0, 1, gates);
        String others = chain.substring(0, chain.lastIndexOf('\n', chain.length() - 2) + 1);
        String due = others + 2 * gates + " " + left + " " + (left - q) + "\n";
        Check.due(name, due.length(), () -> twin.write(0, false, false));
        Check.due(name, due, () -> Check.outText(twin));
    }

    private static void wrongSteps() {
        Check.sentence("so the second one of a step that is 0 or above 127");
        int at = withLast(CHAIN, "").length();
        for (int low : new int[] {128, 129, 130, 254, 255}) {
            for (int high : new int[] {0, 128, 129, 255}) {
                String step = "" + (char) low + (char) high;
                due(withLast(CHAIN, step), 5, at + 1);
                due(withLast(CHAIN, step + "\0"), 5, at + 1);
                due(withLast(CHAIN, "\2" + step), 5, at + 2);
                due(withLast(CHAIN, "\202\1" + step), 5, at + 3);
            }
            due(withLast(CHAIN, "" + (char) low), 5, at + 1);
            due(withLast(CHAIN, "\2" + (char) low), 5, at + 2);
        }
        due(withLast(CHAIN, "\202\1\0"), 0, 0);
        due(withLast(CHAIN, "\202\4\0"), 0, 0);
        // what stands behind a wrong step of a gate that is not the last one is not read
        for (String behind : new String[] {"\0\0", "\2\0", "\377\177\0", "\2\377\177", "c\n"}) {
            for (String wrong : new String[] {"\200\0", "\200\200", "\377\377"}) {
                due("aig 3 1 0 0 2\n" + wrong + behind, 5, 15);
                due("aig 3 1 0 0 2\n\2" + wrong + behind, 5, 16);
                due("aig 3 1 0 0 2\n\2\0" + wrong + behind, 5, 17);
                due("aig 3 1 0 0 2\n\2\0\2" + wrong + behind, 5, 18);
            }
        }
    }

    private static void stepsThatCannotBe() {
        Check.sentence("a step p that is 0 or above g (looked at before q is read); q above g - p");
        for (int variables : new int[] {1, 2, 63, 64, 65, 127, 128, 129, CHAIN}) {
            int own = 2 * variables;
            int at = withLast(variables, "").length();
            due(withLast(variables, Texts.step(1) + "\0"), 0, 0);
            due(withLast(variables, Texts.step(own) + "\0"), 0, 0);
            due(withLast(variables, Texts.step(own - 1) + "\1"), 0, 0);
            due(withLast(variables, "\1" + Texts.step(own - 1)), 0, 0);
            due(withLast(variables, "\0\0"), 6, at);
            due(withLast(variables, Texts.step(own + 1) + "\0"), 6, at);
            due(withLast(variables, "\377\177\0"), 6, at);
            due(withLast(variables, "\1" + Texts.step(own)), 6, at + 1);
            due(withLast(variables, "\1\377\177"), 6, at + 1);
            due(withLast(variables, Texts.step(own) + "\1"), 6, at + Texts.step(own).length());
            // nothing and a wrong step where q would be
            due(withLast(variables, "\0"), 6, at);
            due(withLast(variables, "\0\200\0"), 6, at);
            due(withLast(variables, Texts.step(own + 1)), 6, at);
            due(withLast(variables, Texts.step(own)), 5, at + Texts.step(own).length());
        }
    }

    private static final String[] RIGHT = {"aag 0 0 0 0 0\n", "aig 0 0 0 0 0\n", "aag 1 1 0 0 0\n2\n", "aag 0 0 0 1 0\n1\n",
        "aig 0 0 0 1 0\n1\n", "aag 1 0 0 0 1\n2 1 1\n", "aig 1 0 0 0 1\n\1\1"};

    private static void ends() {
        Check.sentence("Then the text ends, or there is c (99) and a line's end");
        for (String text : RIGHT) {
            int at = text.length();
            due(text, 0, 0);
            due(text + "c\n", 0, 0);
            due(text + "c", 5, at + 1);
            for (String other : new String[] {"b", "d", "C", "\n", " ", "0", "\0", "\343", "\377"}) {
                due(text + other, 5, at);
                due(text + other + "c\n", 5, at);
                due(text + other + "\n", 5, at);
            }
            for (String other : new String[] {"\t", "\13", "\r\n", " \n", "c\n", "\0", "\212"}) {
                due(text + "c" + other, 5, at + 1);
            }
        }
    }

    private static void behindEnd() {
        Check.sentence("whatever stands behind that counts for nothing");
        StringBuilder all = new StringBuilder();
        for (int b = 0; b < 256; b++) {
            all.append((char) b);
        }
        for (String text : RIGHT) {
            due(text + "c\n" + all, 0, 0);
            due(text + "c\nx", 0, 0);
            due(text + "c\nc", 0, 0);
            due(text + "c\nc\n" + text, 0, 0);
            due(text + "c\n" + "z".repeat(3800), 0, 0);
        }
        // the two errors behind all others are met behind such an end too
        due("aag 2 1 0 1 0\n2\n4\nc\nx", 7, 2);
        due("aag 1 0 0 0 1\n2 2 2\nc\nx", 8, 1);
    }

    private static void anyOrder() {
        Check.sentence("Gates may come in any order.");
        String[] lines = {"6 2 4\n", "8 6 3\n", "10 8 6\n"};
        int[][] orders = {{0, 1, 2}, {0, 2, 1}, {1, 0, 2}, {1, 2, 0}, {2, 0, 1}, {2, 1, 0}};
        for (int[] order : orders) {
            String text = "aag 5 2 0 1 3\n2\n4\n11\n" + lines[order[0]] + lines[order[1]] + lines[order[2]];
            Twin twin = Check.twin(text, "aag 0 0 0 0 0\n");
            for (int k = 0; k < 3; k++) {
                int at = k;
                Check.due("gate " + k + " of " + text, 6 + 2 * order[k], () -> twin.literal(0, 1, at));
            }
            Check.due("depth of " + text, 3, () -> twin.look(0, 6));
            Check.due("bytes written", 40, () -> twin.write(0, false, false));
            Check.due("written", "aag 5 2 0 1 3\n2\n4\n11\n6 4 2\n8 6 3\n10 8 6\n", () -> Check.outText(twin));
        }
    }
}
