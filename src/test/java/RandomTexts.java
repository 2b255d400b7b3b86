import java.util.ArrayList;
import java.util.Collections;
import java.util.List;
import java.util.Random;

/** Texts by a seed, so that every run has the same ones. */
final class RandomTexts {
    private final Random random;

    RandomTexts(long seed) {
        random = new Random(seed);
    }

    int below(int bound) {
        return random.nextInt(bound);
    }

    String text(int inputs, int gates, int outputs) {
        return random.nextBoolean() ? aag(inputs, gates, outputs) : aig(inputs, gates, outputs);
    }

    /** Gates of an aag in any order, on variables in any order, with some that stand for nothing. */
    String aag(int inputs, int gates, int outputs) {
        int largest = Math.min(1000, inputs + gates + below(4));
        List<Integer> variables = new ArrayList<>();
        for (int v = 1; v <= largest; v++) {
            variables.add(v);
        }
        if (below(3) > 0) {
            Collections.shuffle(variables, random);
        }
        List<Integer> usable = new ArrayList<>(variables.subList(0, inputs));
        usable.add(0);
        List<String> lines = new ArrayList<>();
        for (int k = 0; k < gates; k++) {
            int own = variables.get(inputs + k);
            lines.add(2 * own + " " + anyOf(usable) + " " + anyOf(usable) + "\n");
            usable.add(own);
        }
        if (random.nextBoolean()) {
            Collections.shuffle(lines, random);
        }
        StringBuilder text = new StringBuilder();
        text.append("aag ").append(largest + " " + inputs + " 0 " + outputs + " " + gates + "\n");
        for (int k = 0; k < inputs; k++) {
            text.append(2 * variables.get(k)).append('\n');
        }
        for (int k = 0; k < outputs; k++) {
            text.append(anyOf(usable)).append('\n');
        }
        for (String line : lines) {
            text.append(line);
        }
        return text.append(tail()).toString();
    }

    String aig(int inputs, int gates, int outputs) {
        int largest = inputs + gates;
        StringBuilder text = new StringBuilder();
        text.append("aig ").append(largest + " " + inputs + " 0 " + outputs + " " + gates + "\n");
        for (int k = 0; k < outputs; k++) {
            text.append(below(2 * largest + 2)).append('\n');
        }
        for (int k = 0; k < gates; k++) {
            int own = 2 * (inputs + 1 + k);
            int left = below(own);
            text.append(Texts.step(own - left)).append(Texts.step(left - below(left + 1)));
        }
        return text.append(tail()).toString();
    }

    /** Late variables more often than early ones, so that circuits grow deep too. */
    private int anyOf(List<Integer> usable) {
        int size = usable.size();
        int index = below(3) == 0 ? size - 1 - below(Math.min(4, size)) : below(size);
        return 2 * usable.get(index) + below(2);
    }

    private String tail() {
        return below(4) == 0 ? "c\nwhatever \0\377" : "";
    }

    /** A text with a byte or two changed, left out, added, or with its end cut off. */
    String spoiled(String text) {
        StringBuilder changed = new StringBuilder(text);
        int times = 1 + below(2);
        for (int i = 0; i < times && changed.length() > 0; i++) {
            int at = below(3) == 0 ? below(Math.min(20, changed.length())) : below(changed.length());
            switch (below(6)) {
                case 0:
                    changed.deleteCharAt(at);
                    break;
                case 1:
                    changed.insert(at, anyByte());
                    break;
                case 2:
                    changed.setLength(at);
                    break;
                default:
                    changed.setCharAt(at, anyByte());
                    break;
            }
        }
        return changed.toString();
    }

    private char anyByte() {
        return below(8) == 0 ? (char) below(256) : "0123456789 \nc\200".charAt(below(14));
    }
}
