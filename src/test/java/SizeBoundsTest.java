/** The section 'Terms', its first half: every size at its bound, just beyond it on either side, and none at all. */
final class SizeBoundsTest {
    private static final boolean[] KINDS = {false, true};
    private static final int[] NO_LITERALS = {-1, -2, Integer.MIN_VALUE, Integer.MIN_VALUE + 1, Integer.MAX_VALUE};

    public static void main(String[] args) {
        inputs();
        gates();
        outputs();
        variables();
        tooLargeOnes();
        sums();
        variableZero();
        standing();
        literals();
        ands();
        aigVariables();
        firstCircuits();
        vectors();
        inputOrder();
        fullCircuit();
        lastCalls();
        Check.end();
    }

    /** A right text of these sizes, and all that tells them. */
    private static void right(boolean binary, int largest, int inputs, int outputs, int gates) {
        Twin twin = new Twin();
        String text = Texts.chain(binary, largest, inputs, outputs, gates);
        String name = text.substring(0, text.indexOf('\n'));
        Check.due(name, 0, () -> Check.load(twin, 0, text));
        int[] due = {inputs, gates, outputs, largest, 0, 0, outputs == 0 ? 0 : gates};
        for (int what = 0; what < due.length; what++) {
            int asked = what;
            Check.due(name + ": look " + what, due[what], () -> twin.look(0, asked));
        }
        int[] last = {2 * inputs, 2 * (inputs + gates), 2 * (inputs + gates)};
        for (int what = 0; what < 3; what++) {
            int asked = what;
            int count = due[what];
            Check.due(name + ": the last of " + what, count == 0 ? Check.ELEMENT : last[what],
                    () -> twin.literal(0, asked, count - 1));
            Check.due(name + ": one more of " + what, Check.ELEMENT, () -> twin.literal(0, asked, count));
        }
        int value = inputs == 0 ? 0 : 1;
        Check.due(name + ": the last variable", value, () -> twin.value(0, 2 * (inputs + gates), (1 << inputs) - 1));
    }

    private static void tooLarge(boolean binary, int largest, int inputs, int outputs, int gates) {
        Check.dueLoad(Texts.chain(binary, largest, inputs, outputs, gates), 4, 0);
    }

    private static void inputs() {
        Check.sentence("A CIRCUIT has INPUTS (I, 14 at most)");
        for (boolean binary : KINDS) {
            for (int count : new int[] {0, 1, 13, 14}) {
                right(binary, count, count, 1, 0);
                right(binary, count + 2, count, 1, 2);
            }
            tooLarge(binary, 15, 15, 1, 0);
            tooLarge(binary, 17, 15, 1, 2);
            tooLarge(binary, 16, 16, 0, 0);
        }
        right(false, 1000, 14, 1, 0);
        tooLarge(false, 1000, 15, 1, 0);
    }

    private static void gates() {
        Check.sentence("GATES (A, 300 at most)");
        for (boolean binary : KINDS) {
            for (int count : new int[] {0, 1, 299, 300}) {
                right(binary, count, 0, 1, count);
                right(binary, count + 14, 14, 1, count);
            }
            tooLarge(binary, 301, 0, 1, 301);
            tooLarge(binary, 315, 14, 1, 301);
        }
        right(false, 1000, 1, 1, 300);
        tooLarge(false, 1000, 1, 1, 301);
    }

    private static void outputs() {
        Check.sentence("OUTPUTS (O, 16 at most)");
        for (boolean binary : KINDS) {
            for (int count : new int[] {0, 1, 15, 16}) {
                right(binary, 0, 0, count, 0);
                right(binary, 3, 1, count, 2);
            }
            tooLarge(binary, 0, 0, 17, 0);
            tooLarge(binary, 3, 1, 17, 2);
        }
    }

    private static void variables() {
        Check.sentence("VARIABLES 0 .. M (M 1000 at most)");
        right(false, 0, 0, 1, 0);
        right(false, 999, 2, 1, 2);
        right(false, 1000, 2, 1, 2);
        tooLarge(false, 1001, 2, 1, 2);
        tooLarge(false, 1001, 0, 0, 0);
        tooLarge(true, 1001, 2, 1, 2);
        Twin twin = Check.twin("aag 1000 1 0 2 1\n2000\n2001\n1998\n1998 2001 2001\n", "aag 0 0 0 0 0\n");
        Check.due("value of 1998", 1, () -> twin.value(0, 1998, 0));
        Check.due("value of 2000", 0, () -> twin.value(0, 2000, 0));
        Check.due("value of 2001", 1, () -> twin.value(0, 2001, 0));
        Check.due("value of 2002", Check.ARGUMENT, () -> twin.value(0, 2002, 0));
        Check.due("leader of 1999", 2000, () -> twin.leader(0, 1999));
        Check.dueLoad("aag 1000 1 0 0 0\n2002\n", 6, 17);
        Check.dueLoad("aag 1000 0 0 1 0\n2002\n", 6, 17);
        Check.dueLoad("aag 1000 0 0 1 0\n2001\n", 7, 1000);
    }

    private static void tooLargeOnes() {
        Check.sentence("4 a number of that line is too large");
        for (int index : new int[] {0, 1, 3, 4}) {
            String[] numbers = {"1000", "0", "0", "0", "0"};
            for (String large : new String[] {"1001", "65536", "99999999", "999999999"}) {
                numbers[index] = large;
                Check.dueLoad("aag " + String.join(" ", numbers) + "\n", 4, 0);
                Check.dueLoad("aig " + String.join(" ", numbers) + "\n", 4, 0);
            }
        }
        Check.dueLoad("aag 999999999 999999999 0 999999999 999999999\n", 4, 0);
        Check.dueLoad("aig 999999999 499999999 0 0 500000000\n", 4, 0);
    }

    private static void sums() {
        Check.sentence("or M is less than I + A, or for aig not that (place of 3 and 4: 0)");
        for (int[] sizes : new int[][] {{0, 1}, {1, 0}, {1, 1}, {2, 3}, {14, 300}}) {
            int sum = sizes[0] + sizes[1];
            tooLarge(false, sum - 1, sizes[0], 1, sizes[1]);
            right(false, sum, sizes[0], 1, sizes[1]);
            right(false, sum + 1, sizes[0], 1, sizes[1]);
            tooLarge(true, sum - 1, sizes[0], 1, sizes[1]);
            right(true, sum, sizes[0], 1, sizes[1]);
            tooLarge(true, sum + 1, sizes[0], 1, sizes[1]);
        }
        right(false, 1, 0, 1, 0);
        tooLarge(true, 1, 0, 1, 0);
        tooLarge(true, 1000, 0, 1, 0);
    }

    private static void variableZero() {
        Check.sentence("variable 0 is always 0");
        for (String text : new String[] {"aag 0 0 0 2 0\n0\n1\n", "aig 0 0 0 2 0\n0\n1\n", "aag 9 3 0 2 0\n4\n2\n18\n0\n1\n",
            Texts.chain(true, 14, 14, 1, 0)}) {
            Twin twin = Check.twin(text, text);
            int last = (1 << twin.look(0, 0)) - 1;
            for (int c = 0; c < 2; c++) {
                int circuit = c;
                Check.due("0 at the first", 0, () -> twin.value(circuit, 0, 0));
                Check.due("1 at the first", 1, () -> twin.value(circuit, 1, 0));
                Check.due("0 at the last", 0, () -> twin.value(circuit, 0, last));
                Check.due("1 at the last", 1, () -> twin.value(circuit, 1, last));
                Check.due("least of 0", -1, () -> twin.least(circuit, 0, 0));
                Check.due("greatest of 0", -1, () -> twin.greatest(circuit, 0));
                Check.due("least of 1", 0, () -> twin.least(circuit, 1, 0));
                Check.due("greatest of 1", last, () -> twin.greatest(circuit, 1));
                Check.due("leader of 0", 0, () -> twin.leader(circuit, 0));
                Check.due("leader of 1", 1, () -> twin.leader(circuit, 1));
            }
        }
    }

    private static void standing() {
        Check.sentence("an input or a gate stands for one variable above 0, others stand for nothing");
        Twin twin = Check.twin("aag 9 1 0 1 1\n6\n6\n12 6 6\n", "aag 0 0 0 0 0\n");
        for (int literal = -4; literal <= 24; literal++) {
            int asked = literal;
            int variable = literal >> 1;
            boolean stands = variable == 0 || variable == 3 || variable == 6;
            Object due = stands ? (literal == 0 || literal == 7 || literal == 13 ? 0 : 1) : Check.ARGUMENT;
            Check.due("value of " + literal + " at 1", due, () -> twin.value(0, asked, 1));
        }
        Check.dueLoad("aag 9 1 0 0 0\n0\n", 6, 14);
        Check.dueLoad("aag 9 1 0 0 0\n1\n", 6, 14);
        Check.dueLoad("aag 9 0 0 0 1\n0 1 1\n", 6, 14);
        Check.dueLoad("aag 9 0 0 0 1\n1 1 1\n", 6, 14);
    }

    private static void literals() {
        Check.sentence("LITERALS: 2 * v is variable v, 2 * v + 1 it inverted.");
        Twin twin = Check.twin("aag 3 2 0 2 1\n2\n4\n6\n7\n6 2 5\n", "aag 0 0 0 0 0\n");
        for (int variable = 0; variable <= 3; variable++) {
            for (int x = 0; x < 4; x++) {
                int literal = 2 * variable;
                int vector = x;
                int[] due = {0, x % 2, x / 2, x == 1 ? 1 : 0};
                Check.due(literal + " at " + x, due[variable], () -> twin.value(0, literal, vector));
                Check.due(literal + 1 + " at " + x, 1 - due[variable], () -> twin.value(0, literal + 1, vector));
            }
        }
    }

    private static void ands() {
        Check.sentence("A gate is the AND of two literals; an output is a literal.");
        int[][] rows = {{2, 4, 3}, {4, 2, 3}, {2, 5, 1}, {3, 4, 2}, {3, 5, 0}};
        for (int[] row : rows) {
            String output = row[2] % 2 == 0 ? "6\n" : "7\n";
            Twin twin = Check.twin("aag 3 2 0 1 1\n2\n4\n" + output + "6 " + row[0] + " " + row[1] + "\n", "aag 0 0 0 0 0\n");
            for (int x = 0; x < 4; x++) {
                int vector = x;
                Check.due(row[0] + " AND " + row[1] + " at " + x, x == row[2] ? 1 : 0, () -> twin.value(0, 6, vector));
            }
            Check.due("the output", output, () -> twin.literal(0, 2, 0) + "\n");
        }
        int[][] ofOne = {{2, 2, 2}, {2, 3, 0}, {3, 3, 1}, {2, 0, 0}, {2, 1, 2}, {0, 0, 0}, {0, 1, 0}, {1, 1, 3}};
        for (int[] row : ofOne) {
            Twin twin = Check.twin("aag 2 1 0 0 1\n2\n4 " + row[0] + " " + row[1] + "\n", "aag 0 0 0 0 0\n");
            Check.due(row[0] + " AND " + row[1] + " at 0", row[2] % 2, () -> twin.value(0, 4, 0));
            Check.due(row[0] + " AND " + row[1] + " at 1", row[2] / 2, () -> twin.value(0, 4, 1));
        }
    }

    private static void aigVariables() {
        Check.sentence("M is I + A; input k (from 0 on) is variable k + 1, gate k variable I + 1 + k.");
        for (int[] sizes : new int[][] {{0, 0}, {0, 1}, {1, 0}, {1, 1}, {14, 0}, {0, 300}, {14, 300}, {13, 7}}) {
            int inputs = sizes[0];
            Twin twin = Check.twin("aag 0 0 0 0 0\n", Texts.chain(true, inputs + sizes[1], inputs, 0, sizes[1]));
            Check.due("M", inputs + sizes[1], () -> twin.look(1, 3));
            for (int what = 0; what < 2; what++) {
                int first = what == 0 ? 2 : 2 * inputs + 2;
                int w = what;
                for (int k = 0; k < sizes[what]; k++) {
                    int at = k;
                    Check.due("literal(1, " + w + ", " + k + ")", first + 2 * k, () -> twin.literal(1, w, at));
                }
                Check.due("literal behind the last", Check.ELEMENT, () -> twin.literal(1, w, sizes[w]));
            }
        }
    }

    private static void firstCircuits() {
        Check.sentence("Circuits 0 and 1 have no inputs, gates and outputs at first (M 0).");
        Twin twin = new Twin();
        for (int c = 0; c < 2; c++) {
            int circuit = c;
            for (int what = 0; what <= 8; what++) {
                int asked = what;
                Check.due("look " + what, 0, () -> twin.look(circuit, asked));
                Check.due("literal of " + what, Check.ELEMENT, () -> twin.literal(circuit, asked, 0));
            }
            Check.due("the one vector", 1, () -> twin.value(circuit, 1, 0));
            Check.due("no other vector", Check.ARGUMENT, () -> twin.value(circuit, 1, 1));
            Check.due("no literal 2", Check.ARGUMENT, () -> twin.value(circuit, 2, 0));
            Check.due("no literal 3", Check.ARGUMENT, () -> twin.value(circuit, 3, 0));
            for (int literal : NO_LITERALS) {
                Check.due("no literal " + literal, Check.ARGUMENT, () -> twin.value(circuit, literal, 0));
            }
        }
    }

    private static void vectors() {
        Check.sentence("A VECTOR x is 0 .. 2^I - 1");
        for (int inputs = 0; inputs <= 14; inputs++) {
            Twin twin = Check.twin(Texts.chain(true, inputs, inputs, 0, 0), Texts.chain(false, inputs, inputs, 0, 0));
            int count = 1 << inputs;
            for (int c = 0; c < 2; c++) {
                int circuit = c;
                String name = inputs + " inputs: ";
                Check.due(name + "value at the first", 1, () -> twin.value(circuit, 1, 0));
                Check.due(name + "value at the last", 1, () -> twin.value(circuit, 1, count - 1));
                Check.due(name + "least from the first", 0, () -> twin.least(circuit, 1, 0));
                Check.due(name + "least from the last", count - 1, () -> twin.least(circuit, 1, count - 1));
                Check.due(name + "greatest", count - 1, () -> twin.greatest(circuit, 1));
                for (int x : new int[] {-1, count, count + 1, -count, 1 << 15, 1 << 30, Integer.MAX_VALUE, Integer.MIN_VALUE}) {
                    Check.due(name + "value at " + x, Check.ARGUMENT, () -> twin.value(circuit, 1, x));
                    Check.due(name + "least from " + x, Check.ARGUMENT, () -> twin.least(circuit, 1, x));
                }
            }
        }
    }

    private static void inputOrder() {
        Check.sentence("input k (from 0 on, in the order of the text) is its bit k.");
        for (int inputs = 1; inputs <= 14; inputs++) {
            StringBuilder turned = new StringBuilder("aag 20 " + inputs + " 0 0 0\n");
            for (int k = 0; k < inputs; k++) {
                turned.append(40 - 2 * k + "\n");
            }
            Twin twin = Check.twin(turned.toString(), Texts.chain(true, inputs, inputs, 0, 0));
            int last = (1 << inputs) - 1;
            for (int k = 0; k < inputs; k++) {
                bitOfInput(twin, 0, 40 - 2 * k, k, last);
                bitOfInput(twin, 1, 2 * k + 2, k, last);
            }
        }
    }

    private static void bitOfInput(Twin twin, int circuit, int literal, int k, int last) {
        String name = "input " + k + " of circuit " + circuit + " up to " + last + ": ";
        int bit = 1 << k;
        Check.due(name + "its literal", literal, () -> twin.literal(circuit, 0, k));
        Check.due(name + "before its bit", 0, () -> twin.value(circuit, literal, bit - 1));
        Check.due(name + "at its bit", 1, () -> twin.value(circuit, literal, bit));
        Check.due(name + "without its bit", 0, () -> twin.value(circuit, literal, last - bit));
        Check.due(name + "least", bit, () -> twin.least(circuit, literal, 0));
        Check.due(name + "greatest", last, () -> twin.greatest(circuit, literal));
        Check.due(name + "least of its inverse", 0, () -> twin.least(circuit, literal + 1, 0));
        Check.due(name + "greatest of its inverse", last - bit, () -> twin.greatest(circuit, literal + 1));
        if (2 * bit <= last) {
            Check.due(name + "least behind the first ones", 3 * bit, () -> twin.least(circuit, literal, 2 * bit));
        }
    }

    /** Every bound at once. */
    private static void fullCircuit() {
        Check.sentence("INPUTS (I, 14 at most), GATES (A, 300 at most), OUTPUTS (O, 16 at most), and VARIABLES 0 .. M");
        String text = Texts.full();
        Model model = Model.read(text);
        Twin twin = new Twin();
        Check.due("load", 0, () -> Check.load(twin, 1, text));
        int[] due = {14, 300, 16, 1000, 0, 0, 300, 0, 0};
        for (int what = 0; what < due.length; what++) {
            int asked = what;
            Check.due("look " + what, due[what], () -> twin.look(1, asked));
        }
        Check.due("functions", model.kinds().size(), () -> twin.functions(1));
        for (int literal : new int[] {0, 1, 2, 3, 598, 599, 600, 601, 1974, 1975, 2000, 2001}) {
            Check.due("leader of " + literal, model.leader(literal), () -> twin.leader(1, literal));
            Check.due("least of " + literal, model.function(literal).nextSetBit(0), () -> twin.least(1, literal, 0));
            Check.due("greatest of " + literal, model.function(literal).length() - 1, () -> twin.greatest(1, literal));
        }
        for (int literal : new int[] {602, 603, 1972, 1973, 2002}) {
            Check.due("value of " + literal, Check.ARGUMENT, () -> twin.value(1, literal, 0));
        }
    }

    private static void lastCalls() {
        Check.sentence("An object is used for at most 512 calls after it has been made");
        Twin twin = new Twin();
        String text = "aag 3 2 0 1 1\n2\n4\n6\n6 4 2\n";
        for (int i = 0; i < text.length(); i++) {
            twin.feed(1, text.charAt(i));
        }
        Check.due("load", 0, () -> twin.load(0));
        for (int call = text.length() + 2; call < 512; call++) {
            int x = call % 4;
            Check.due("call " + call, x == 3 ? 1 : 0, () -> twin.value(0, 6, x));
        }
        Check.due("call 512", 3, () -> twin.greatest(0, 6));
    }
}
