import java.util.ArrayList;
import java.util.List;
import java.util.Random;

/** Rows are made once and used again: nothing of an earlier circuit, text or OUT is left in a later answer. */
final class LeftoversTest {
    private static final Random RANDOM = new Random(5);

    /** So many calls at most bring an object to its state, so that some of the 512 are left for looking at it. */
    private static final int MOST_CHANGES = 400;

    public static void main(String[] args) {
        Check.sentence("All memory is the class's own, made once.");
        List<String> texts = texts();
        for (int run = 0; run < 400; run++) {
            loads(texts);
            writes(texts);
        }
        Check.end();
    }

    /** Small and full ones, of few inputs and of many, deep and flat, right and wrong. */
    private static List<String> texts() {
        List<String> texts = new ArrayList<>();
        texts.add("aag 0 0 0 0 0\n");
        texts.add(Texts.wide(30));
        texts.add(Texts.chain(true, 314, 14, 16, 300));
        texts.add(Texts.chain(true, 300, 0, 16, 300));
        texts.add(Texts.chain(false, 14, 14, 16, 0));
        texts.add(Texts.chain(false, 1000, 7, 3, 20));
        texts.add("aag 9 2 0 2 3\n2\n4\n6\n18\n6 16 2\n16 2 4\n18 3 5\n");
        texts.add("aag 8 3 0 2 5\n2\n4\n6\n12\n10\n8 2 4\n14 8 2\n10 14 6\n12 8 7\n16 2 6\n");
        texts.add("aag 1000 1 0 1 1\n2000\n1999\n1998 2001 1\n");
        texts.add("aag 300 0 0 1 1\n600\n2 1 1\n");
        texts.add("aag 300 0 0 1 2\n4\n2 4 1\n4 2 1\n");
        texts.add("aag 300 14 0");
        RandomTexts random = new RandomTexts(11);
        texts.add(random.aig(14, 300, 16));
        for (int inputs = 0; inputs <= 14; inputs += 2) {
            texts.add(random.text(inputs, 40, 8));
        }
        return texts;
    }

    /** Texts by chance into the circuits of one object, against a new one that knows the two latest right ones alone. */
    private static void loads(List<String> texts) {
        Twin used = new Twin();
        String[] right = {"aag 0 0 0 0 0\n", "aag 0 0 0 0 0\n"};
        for (String text : someOf(texts)) {
            int circuit = RANDOM.nextInt(2);
            right[circuit] = Check.load(used, circuit, text) == 0 ? text : right[circuit];
        }
        Twin fresh = Check.twin(right[0], right[1]);
        // so that the errors of the latest loads are the same in both
        for (int c = 0; c < 2; c++) {
            used.load(c);
            fresh.load(c);
        }
        Check.due("what loads left", "nothing", () -> State.difference(State.of(fresh), State.of(used)));
    }

    private static void writes(List<String> texts) {
        Twin used = new Twin();
        String latest = "aag 0 0 0 0 0\n";
        boolean binary = false;
        boolean reduced = false;
        for (String text : someOf(texts)) {
            if (Check.load(used, 0, text) == 0) {
                latest = text;
            }
            binary = RANDOM.nextBoolean();
            reduced = RANDOM.nextBoolean();
            used.write(0, binary, reduced);
        }
        Twin fresh = Check.twin("aag 0 0 0 0 0\n", latest);
        fresh.write(1, binary, reduced);
        Check.due("text behind many writes", Check.outText(fresh), () -> Check.outText(used));
    }

    private static List<String> someOf(List<String> texts) {
        List<String> some = new ArrayList<>();
        int calls = 0;
        for (int i = 0; i < 12; i++) {
            String text = texts.get(RANDOM.nextInt(texts.size()));
            int more = text.length() / 8 + 3;
            if (calls + more <= MOST_CHANGES) {
                calls += more;
                some.add(text);
            }
        }
        return some;
    }
}
