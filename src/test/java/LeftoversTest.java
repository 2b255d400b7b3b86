import java.util.ArrayList;
import java.util.Collections;
import java.util.List;
import java.util.Random;

/** Rows are made once and used again: nothing of an earlier circuit, text or OUT is left in a later answer. */
final class LeftoversTest {
    private static final Random RANDOM = new Random(5);

    public static void main(String[] args) {
        Check.sentence("All memory is the class's own, made once.");
        List<String> texts = texts();
        for (int run = 0; run < 12; run++) {
            Collections.shuffle(texts, RANDOM);
            loads(texts);
            writes(texts);
        }
        Check.end();
    }

    /** Small and full ones, of few inputs and of many, deep and flat, right and wrong. */
    private static List<String> texts() {
        List<String> texts = new ArrayList<>();
        texts.add("aag 0 0 0 0 0\n");
        texts.add(Texts.full());
        texts.add(Texts.chain(true, 300, 0, 16, 300));
        texts.add(Texts.chain(false, 14, 14, 16, 0));
        texts.add(Texts.chain(false, 1000, 7, 3, 20));
        texts.add("aag 9 2 0 2 3\n2\n4\n6\n18\n6 16 2\n16 2 4\n18 3 5\n");
        texts.add("aag 8 3 0 2 5\n2\n4\n6\n12\n10\n8 2 4\n14 8 2\n10 14 6\n12 8 7\n16 2 6\n");
        texts.add("aag 1000 1 0 1 1\n2000\n1999\n1998 2001 1\n");
        texts.add("aag 300 0 0 1 1\n600\n2 1 1\n");
        texts.add("aag 300 0 0 1 2\n4\n2 4 1\n4 2 1\n");
        texts.add("aag 300 14 0");
        RandomTexts random = new RandomTexts(11);
        for (int inputs = 0; inputs <= 14; inputs += 2) {
            texts.add(random.text(inputs, 40, 8));
        }
        return texts;
    }

    /** Each text in turn into the circuits of one object, against a new one that knows the two latest right ones alone. */
    private static void loads(List<String> texts) {
        CircuitTwin used = new CircuitTwin();
        String[] right = {"aag 0 0 0 0 0\n", "aag 0 0 0 0 0\n"};
        for (String text : texts) {
            int circuit = RANDOM.nextInt(2);
            int error = Check.load(used, circuit, text);
            right[circuit] = error == 0 ? text : right[circuit];
            CircuitTwin fresh = Check.twin(right[0], right[1]);
            // so that the errors of the latest loads are the same in both
            for (int c = 0; c < 2; c++) {
                used.load(c);
                fresh.load(c);
            }
            Check.due("what many loads left", "nothing", () -> State.difference(State.of(fresh), State.of(used)));
        }
    }

    private static void writes(List<String> texts) {
        CircuitTwin used = new CircuitTwin();
        for (String text : texts) {
            int circuit = RANDOM.nextInt(2);
            if (Check.load(used, circuit, text) != 0) {
                continue;
            }
            boolean binary = RANDOM.nextBoolean();
            boolean reduced = RANDOM.nextBoolean();
            CircuitTwin fresh = Check.twin(text, text);
            Check.due("bytes behind many writes", fresh.write(circuit, binary, reduced), () -> used.write(circuit, binary, reduced));
            Check.due("text behind many writes", Check.outText(fresh), () -> Check.outText(used));
        }
    }
}
