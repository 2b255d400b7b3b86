import java.util.NoSuchElementException;

/** A half adder against another one that has a fault: its carry is an OR. */
public final class Example {
    private static final String RIGHT = "aag 5 2 0 2 3\n2\n4\n10\n6\n6 2 4\n8 3 5\n10 7 9\n";
    private static final String WRONG = "aag 7 2 0 2 5\n2\n4\n11\n15\n6 2 5\n8 3 4\n10 7 9\n12 3 5\n14 5 3\n";

    public static void main(String[] args) {
        CircuitTwin twin = new CircuitTwin();
        System.out.println("load(0): " + load(twin, 0, RIGHT));
        System.out.println("load(1): " + load(twin, 1, WRONG));

        // outputs: 0 is the sum, 1 the carry
        System.out.println("compare(): " + twin.compare());
        System.out.println("witness(0): " + twin.witness(0));
        System.out.println("witness(1): " + twin.witness(1));
        System.out.println("value(0, 6, 1): " + twin.value(0, twin.literal(0, 2, 1), 1));
        System.out.println("value(1, 15, 1): " + twin.value(1, twin.literal(1, 2, 1), 1));

        // literal 10 is the sum in circuit 0, and the sum inverted in circuit 1
        System.out.println("same(10, 10): " + twin.same(10, 10));
        System.out.println("least(0, 10, 2): " + twin.least(0, 10, 2));
        System.out.println("greatest(0, 10): " + twin.greatest(0, 10));
        System.out.println("implies(1, 6, 15): " + twin.implies(1, 6, 15));
        System.out.println("depends(0, 10, 1): " + twin.depends(0, 10, 1));
        System.out.println("rises(0, 6, 1): " + twin.rises(0, 6, 1));
        System.out.println("rises(0, 10, 1): " + twin.rises(0, 10, 1));

        // gate 14 of circuit 1 is a double of gate 12, and left out when the circuit is reduced
        System.out.println("leader(1, 15): " + twin.leader(1, 15));
        System.out.println("functions(1): " + twin.functions(1));
        System.out.println("allFunctions(): " + twin.allFunctions());
        System.out.println("write(1, false, true): " + twin.write(1, false, true));
        System.out.print(outText(twin));

        // a text with an error leaves the circuit as it was; the error and its place can be looked at
        System.out.println("load(1): " + load(twin, 1, "aag 1 1 0 0 0\n3\n"));
        System.out.println("look(1, 4): " + twin.look(1, 4));
        System.out.println("look(1, 5): " + twin.look(1, 5));
        System.out.println("look(1, 1): " + twin.look(1, 1));
        try {
            twin.witness(2);
        } catch (NoSuchElementException e) {
            System.out.println("witness(2): there is no such output");
        }
    }

    /** Eight bytes a call at most; one is plainest. */
    private static int load(CircuitTwin twin, int circuit, String text) {
        for (int i = 0; i < text.length(); i++) {
            twin.feed(1, text.charAt(i));
        }
        return twin.load(circuit);
    }

    private static String outText(CircuitTwin twin) {
        StringBuilder text = new StringBuilder();
        int length = twin.look(0, 8);
        for (int k = 0; k < length; k++) {
            text.append((char) (twin.out(k) & 255));
        }
        return text.toString();
    }
}
