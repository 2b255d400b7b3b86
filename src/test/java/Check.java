import java.io.ByteArrayOutputStream;
import java.nio.charset.StandardCharsets;

/** What every test needs: answers held against what is due, and texts fed and read back. */
final class Check {
    static final String ARGUMENT = "IllegalArgumentException";
    static final String STATE = "IllegalStateException";
    static final String ELEMENT = "NoSuchElementException";

    /** A right text that stands in both circuits before a text is tried by dueLoad. */
    private static final String BEFORE = "aag 5 2 0 1 1\n2\n10\n7\n6 10 2\n";
    private static final int[] LOOKS_BEFORE = {2, 1, 1, 5};

    private static int wrong = 0;
    private static String about = "";

    private Check() {
    }

    interface Call {
        Object answer();
    }

    /** The answer of a call, or the name of the exception that it throws. */
    static Object answerOf(Call call) {
        try {
            return call.answer();
        } catch (RuntimeException e) {
            return e.getClass().getSimpleName();
        }
    }

    /** What the checks behind this are about: words of the document. */
    static void sentence(String words) {
        about = "'" + words + "': ";
    }

    static void due(String what, Object want, Call call) {
        Object got = answerOf(call);
        if (!want.equals(got)) {
            wrong++;
            if (wrong <= 50) {
                System.out.println(about + what + " answered " + got + ", due is " + want);
            }
        }
    }

    /** On a new object: the error of a text and its place, the tape used up, and for an error all else as before. */
    static void dueLoad(String text, int error, int place) {
        Twin twin = twin(BEFORE, BEFORE);
        String shown = text.length() > 60 ? text.substring(0, 60) + ".. (" + text.length() + ")" : text;
        due("load of " + shown, error, () -> load(twin, 0, text));
        due("look 4 behind " + shown, error, () -> twin.look(0, 4));
        due("look 5 behind " + shown, place, () -> twin.look(0, 5));
        due("look 7 behind " + shown, 0, () -> twin.look(0, 7));
        due("look 4 of the other", 0, () -> twin.look(1, 4));
        due("look 5 of the other", 0, () -> twin.look(1, 5));
        for (int what = 0; what < LOOKS_BEFORE.length && error != 0; what++) {
            int asked = what;
            due("look " + what + " behind " + shown, LOOKS_BEFORE[what], () -> twin.look(0, asked));
        }
        if (error != 0) {
            due("compare behind " + shown, -1, () -> twin.compare());
        }
    }

    static void end() {
        System.out.println(wrong == 0 ? "all answers are as due" : wrong + " answers are not as due");
        if (wrong != 0) {
            System.exit(1);
        }
    }

    static byte[] bytes(String text) {
        return text.getBytes(StandardCharsets.ISO_8859_1);
    }

    static void feed(Twin twin, byte[] text) {
        for (int from = 0; from < text.length; from += 8) {
            int n = Math.min(8, text.length - from);
            long v = 0;
            for (int i = 0; i < n; i++) {
                v |= (text[from + i] & 255L) << (8 * i);
            }
            twin.feed(n, v);
        }
    }

    static int load(Twin twin, int circuit, String text) {
        feed(twin, bytes(text));
        return twin.load(circuit);
    }

    /** A new object with two circuits that must be right. */
    static Twin twin(String first, String second) {
        Twin twin = new Twin();
        due("load(0) of " + first, 0, () -> load(twin, 0, first));
        due("load(1) of " + second, 0, () -> load(twin, 1, second));
        return twin;
    }

    static byte[] outBytes(Twin twin) {
        ByteArrayOutputStream all = new ByteArrayOutputStream();
        int length = twin.look(0, 8);
        for (int k = 0; k < length; k += 8) {
            long eight = twin.out(k);
            for (int i = 0; i < 8 && k + i < length; i++) {
                all.write((int) (eight >>> (8 * i)) & 255);
            }
        }
        return all.toByteArray();
    }

    static String outText(Twin twin) {
        return new String(outBytes(twin), StandardCharsets.ISO_8859_1);
    }
}
