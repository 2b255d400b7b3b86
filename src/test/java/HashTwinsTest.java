/**
 * Functions are told apart exactly, not by their hashes alone: a circuit of seven inputs has an output
 * that is not always 0, but whose hash inside the program is that of 0.
 */
final class HashTwinsTest {
    private static final long HASH_FACTOR = 0x9E3779B97F4A7C15L;
    private static final int INPUTS = 7;

    private static final StringBuilder LINES = new StringBuilder();
    private static int gates = 0;

    public static void main(String[] args) {
        long firstWord = 2;
        long secondWord = firstWord * HASH_FACTOR;
        secondWord ^= secondWord >>> 29;
        int[] low = productsOfThree(2);
        int[] high = productsOfThree(8);
        int lower = and(anyOf(firstWord, low, high), 15);
        int upper = and(anyOf(secondWord, low, high), 14);
        int output = and(lower ^ 1, upper ^ 1) ^ 1;
        String inputs = "2\n4\n6\n8\n10\n12\n14\n";
        String text = "aag " + (INPUTS + gates) + " 7 0 1 " + gates + "\n" + inputs + output + "\n" + LINES;
        Twin twin = Check.twin(text, "aag 7 7 0 1 0\n" + inputs + "0\n");
        int kinds = Model.read(text).kinds().size();
        Check.due("least", 1, () -> twin.least(0, output, 0));
        Check.due("leader", output, () -> twin.leader(0, output));
        Check.due("same as 0", 0, () -> twin.same(output, 0));
        Check.due("functions", kinds, () -> twin.functions(0));
        Check.due("all functions", kinds, () -> twin.allFunctions());
        Check.due("compare", 0, () -> twin.compare());
        Check.end();
    }

    private static int and(int left, int right) {
        gates++;
        int own = 2 * (INPUTS + gates);
        LINES.append(own + " " + left + " " + right + "\n");
        return own;
    }

    /** The eight ANDs of three inputs, whose literals begin with base, or their inverses. */
    private static int[] productsOfThree(int base) {
        int[] products = new int[8];
        for (int i = 0; i < 8; i++) {
            int two = and(base + 1 - i % 2, base + 3 - i / 2 % 2);
            products[i] = and(two, base + 5 - i / 4);
        }
        return products;
    }

    /** A literal that is 1 at those of 64 vectors whose bits a word has. */
    private static int anyOf(long word, int[] low, int[] high) {
        int none = 1;
        for (int x = 0; x < 64; x++) {
            if ((word >>> x) % 2 != 0) {
                none = and(none, and(low[x % 8], high[x / 8]) ^ 1);
            }
        }
        return none ^ 1;
    }
}
