/**
 * Promise 2's last words. A full tape takes 1024 calls, and the document promises nothing behind the 512th; so that
 * these words have a test nonetheless, this one alone calls an object more often.
 */
final class FullTapeTest {
    private static final int MOST = 8192;
    private static final String AND = "aag 3 2 0 1 1\n2\n4\n6\n6 4 2\n";
    private static final String OR = "aag 3 2 0 1 1\n2\n4\n7\n6 5 3\n";

    public static void main(String[] args) {
        Check.sentence("IllegalStateException when it would have more than 8192.");
        for (int last = 1; last <= 8; last++) {
            upTo(last);
        }
        Check.sentence("a call that throws changes nothing");
        refusedChangesNothing();
        Check.sentence("The tape, which is used up, is read as a circuit");
        usedUp();
        Check.end();
    }

    private static void feed(CircuitTwin twin, String text) {
        for (int i = 0; i < text.length(); i++) {
            twin.feed(1, text.charAt(i));
        }
    }

    /** A text with as much behind its end as the tape has room for, but for some bytes. */
    private static String filled(String text, int free) {
        return text + "c\n" + "z".repeat(MOST - free - text.length() - 2);
    }

    private static void upTo(int last) {
        CircuitTwin twin = new CircuitTwin();
        feed(twin, filled(AND, last));
        for (int more = last + 1; more <= 8; more++) {
            int tooMany = more;
            Check.due("feed " + more + " with room for " + last, Check.STATE, () -> twin.feed(tooMany, 0));
            Check.due("the tape stays", MOST - last, () -> twin.look(0, 7));
        }
        Check.due("feed " + last + " with room for it", MOST, () -> twin.feed(last, 0));
        for (int more = 1; more <= 8; more++) {
            int tooMany = more;
            Check.due("feed " + more + " to a full tape", Check.STATE, () -> twin.feed(tooMany, 0));
        }
        for (int wrong : new int[] {0, 9, -1, Integer.MIN_VALUE, Integer.MAX_VALUE}) {
            Check.due("feed " + wrong + " to a full tape", Check.ARGUMENT, () -> twin.feed(wrong, 0));
        }
        Check.due("look 7 of a full tape", MOST, () -> twin.look(1, 7));
    }

    private static void refusedChangesNothing() {
        CircuitTwin twin = new CircuitTwin();
        feed(twin, OR);
        twin.load(0);
        feed(twin, OR);
        twin.load(1);
        twin.write(0, false, false);
        feed(twin, filled(AND, 3));
        Check.due("feed 4", Check.STATE, () -> twin.feed(4, -1L));
        Check.due("feed 3", MOST, () -> twin.feed(3, 0));
        Check.due("feed 1", Check.STATE, () -> twin.feed(1, -1L));
        Check.due("circuits stay", -1, () -> twin.compare());
        Check.due("gates stay", 0, () -> twin.value(1, 6, 3));
        Check.due("OUT stays", OR.length(), () -> twin.look(0, 8));
        Check.due("its end stays", 0x0A33203520360A37L, () -> twin.out(OR.length() - 8));
        Check.due("the text on the tape stays", 0, () -> twin.load(1));
        Check.due("it is a circuit", 1, () -> twin.value(1, 6, 3));
    }

    private static void usedUp() {
        CircuitTwin twin = new CircuitTwin();
        for (int circuit = 0; circuit < 2; circuit++) {
            int c = circuit;
            feed(twin, filled(AND, 0));
            Check.due("load of a full tape", 0, () -> twin.load(c));
            Check.due("the tape behind it", 0, () -> twin.look(c, 7));
            Check.due("its M", 3, () -> twin.look(c, 3));
        }
        feed(twin, "x".repeat(MOST));
        Check.due("load of a full tape that is no text", 1, () -> twin.load(0));
        Check.due("feed behind it", 8, () -> twin.feed(8, 0));
    }
}
