import java.io.ByteArrayOutputStream;
import java.nio.charset.StandardCharsets;

/** What every test needs: answers held against what is due, and texts fed and read back. */
final class Check {
    static final String ARGUMENT = "IllegalArgumentException";
    static final String STATE = "IllegalStateException";
    static final String ELEMENT = "NoSuchElementException";

    private static int wrong = 0;

    private Check() {
    }

    interface Call {
        Object answer();
    }

    /** The answer of a call, or the name of the exception that it throws. */
    static Object answerOf(Call call) {
        try {
            return call.answer();
        } catch (RuntimeException e) {
            return e.getClass().getSimpleName();
        }
    }

    static void due(String what, Object want, Call call) {
        Object got = answerOf(call);
        if (!want.equals(got)) {
            wrong++;
            if (wrong <= 50) {
                System.out.println(what + " answered " + got + ", due is " + want);
            }
        }
    }

    static void end() {
        System.out.println(wrong == 0 ? "all answers are as due" : wrong + " answers are not as due");
        if (wrong != 0) {
            System.exit(1);
        }
    }

    static byte[] bytes(String text) {
        return text.getBytes(StandardCharsets.ISO_8859_1);
    }

    static void feed(CircuitTwin twin, byte[] text) {
        for (int from = 0; from < text.length; from += 8) {
            int n = Math.min(8, text.length - from);
            long v = 0;
            for (int i = 0; i < n; i++) {
                v |= (text[from + i] & 255L) << (8 * i);
            }
            twin.feed(n, v);
        }
    }

    static int load(CircuitTwin twin, int circuit, String text) {
        feed(twin, bytes(text));
        return twin.load(circuit);
    }

    /** A new object with two circuits that must be right. */
    static CircuitTwin twin(String first, String second) {
        CircuitTwin twin = new CircuitTwin();
        due("load(0) of " + first, 0, () -> load(twin, 0, first));
        due("load(1) of " + second, 0, () -> load(twin, 1, second));
        return twin;
    }

    static byte[] outBytes(CircuitTwin twin) {
        ByteArrayOutputStream all = new ByteArrayOutputStream();
        int length = twin.look(0, 8);
        for (int k = 0; k < length; k += 8) {
            long eight = twin.out(k);
            for (int i = 0; i < 8 && k + i < length; i++) {
                all.write((int) (eight >>> (8 * i)) & 255);
            }
        }
        return all.toByteArray();
    }

    static String outText(CircuitTwin twin) {
        return new String(outBytes(twin), StandardCharsets.ISO_8859_1);
    }
}
