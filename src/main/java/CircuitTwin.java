import java.util.Arrays;
import java.util.NoSuchElementException;

/**
 * Two circuits of AND gates and inverters over the same inputs, compared as functions, exactly.
 * The document DOC.md says, as numbered promises, what every call answers.
 */
public final class CircuitTwin {
    private static final int MOST_INPUTS = 14;
    private static final int MOST_GATES = 300;
    private static final int MOST_OUTPUTS = 16;
    private static final int MOST_VARIABLES = 1000;
    private static final int MOST_TAPE = 8192;
    private static final int BYTES_OF_LONG = 8;

    /** Variable 0, every input and every gate has a slot of its own. */
    private static final int SLOTS = 1 + MOST_INPUTS + MOST_GATES;

    private static final int BLANK = 32;
    private static final int LINE_END = 10;
    private static final int DIGIT_ZERO = 48;
    private static final int DIGIT_NINE = 57;
    private static final int LETTER_A = 97;
    private static final int LETTER_C = 99;
    private static final int LETTER_G = 103;
    private static final int LETTER_I = 105;

    /** Bytes from here on are the first ones of a step of two. */
    private static final int STEP_BASE = 128;

    private final Circuit first;
    private final Circuit second;
    private final Reader reader;
    private final Writer writer;

    /** Promise 1. */
    public CircuitTwin() {
        first = new Circuit();
        first.settle();
        second = new Circuit();
        second.settle();
        reader = new Reader();
        writer = new Writer();
    }

    /** Promise 2. */
    public int feed(int n, long v) throws IllegalArgumentException, IllegalStateException {
        if (n < 1 || n > BYTES_OF_LONG) {
            throw new IllegalArgumentException("n is not 1 .. 8");
        }
        if (reader.length + n > MOST_TAPE) {
            throw new IllegalStateException("the tape would be too long");
        }
        for (int i = 0; i < n; i++) {
            reader.append((byte) (v >>> (8 * i)));
        }
        return reader.length;
    }

    /** Promise 3. */
    public int load(int circuit) throws IllegalArgumentException {
        Circuit target = named(circuit);
        reader.readTape();
        target.error = reader.error;
        target.place = reader.place;
        if (reader.error == 0) {
            target.net = reader.exchangeNet(target.net);
            target.settle();
        }
        return reader.error;
    }

    /** Promise 4. */
    public int literal(int circuit, int what, int k) throws IllegalArgumentException, NoSuchElementException {
        Net net = named(circuit).net;
        if (what == 0 && k >= 0 && k < net.inputs) {
            return net.own[1 + k];
        }
        if (what == 1 && k >= 0 && k < net.gates) {
            return net.own[1 + net.inputs + k];
        }
        if (what == 2 && k >= 0 && k < net.outputs) {
            return net.outputLiterals[k];
        }
        throw new NoSuchElementException("no such input, gate or output");
    }

    /** Promise 5. */
    public int value(int circuit, int literal, int vector) throws IllegalArgumentException {
        Circuit asked = named(circuit);
        requireStanding(asked, literal);
        requireVector(asked, vector);
        return asked.bitAt(literal, vector);
    }

    /** Promise 6. */
    public int compare() throws IllegalStateException {
        requireMatch();
        if (first.net.outputs != second.net.outputs) {
            return -2;
        }
        for (int k = 0; k < first.net.outputs; k++) {
            if (leastDifference(k) >= 0) {
                return k;
            }
        }
        return -1;
    }

    /** Promise 7. */
    public int witness(int output) throws IllegalStateException, NoSuchElementException {
        requireMatch();
        if (output < 0 || output >= first.net.outputs || output >= second.net.outputs) {
            throw new NoSuchElementException("not both have this output");
        }
        return leastDifference(output);
    }

    /** Promise 8. */
    public int least(int circuit, int literal, int from) throws IllegalArgumentException {
        Circuit asked = named(circuit);
        requireStanding(asked, literal);
        requireVector(asked, from);
        return asked.firstOne(literal, from);
    }

    /** Promise 9. */
    public int greatest(int circuit, int literal) throws IllegalArgumentException {
        Circuit asked = named(circuit);
        requireStanding(asked, literal);
        return asked.lastOne(literal);
    }

    /** Promise 10. */
    public int same(int literal, int other) throws IllegalArgumentException, IllegalStateException {
        requireStanding(first, literal);
        requireStanding(second, other);
        requireMatch();
        int slot = first.net.slotFor(literal);
        int otherSlot = second.net.slotFor(other);
        if (!first.isSameOrInverse(slot, second, otherSlot)) {
            return 0;
        }
        return first.bitAt(literal, 0) == second.bitAt(other, 0) ? 1 : -1;
    }

    /** Promise 11. */
    public boolean implies(int circuit, int literal, int other) throws IllegalArgumentException {
        Circuit asked = named(circuit);
        requireStanding(asked, literal);
        requireStanding(asked, other);
        return asked.isWithin(literal, other);
    }

    /** Promise 12. */
    public boolean depends(int circuit, int literal, int k) throws IllegalArgumentException, NoSuchElementException {
        Circuit asked = named(circuit);
        requireStanding(asked, literal);
        requireInput(asked, k);
        return asked.movesOf(literal, k) != 0;
    }

    /** Promise 13. */
    public int rises(int circuit, int literal, int k) throws IllegalArgumentException, NoSuchElementException {
        Circuit asked = named(circuit);
        requireStanding(asked, literal);
        requireInput(asked, k);
        int moves = asked.movesOf(literal, k);
        if (moves == 0) {
            return 2;
        }
        if (moves == Circuit.GOES_UP) {
            return 1;
        }
        return moves == Circuit.GOES_DOWN ? -1 : 0;
    }

    /** Promise 14. */
    public int leader(int circuit, int literal) throws IllegalArgumentException {
        Circuit asked = named(circuit);
        requireStanding(asked, literal);
        return asked.leaderOf(literal);
    }

    /** Promise 15. */
    public int functions(int circuit) throws IllegalArgumentException {
        return named(circuit).kinds;
    }

    /** Promise 16. */
    public int allFunctions() throws IllegalStateException {
        requireMatch();
        return first.kinds + second.kindsNotIn(first);
    }

    /** Promise 17. */
    public int write(int circuit, boolean binary, boolean reduced) throws IllegalArgumentException {
        return writer.writeText(named(circuit), binary, reduced);
    }

    /** Promise 18. */
    public long out(int k) throws NoSuchElementException {
        if (k < 0 || k >= writer.length) {
            throw new NoSuchElementException("no such byte");
        }
        long eight = 0;
        for (int i = 0; i < BYTES_OF_LONG; i++) {
            eight |= (long) writer.byteAt(k + i) << (8 * i);
        }
        return eight;
    }

    /** Promise 19. */
    public int look(int circuit, int what) throws IllegalArgumentException {
        Circuit asked = named(circuit);
        switch (what) {
            case 0:
                return asked.net.inputs;
            case 1:
                return asked.net.gates;
            case 2:
                return asked.net.outputs;
            case 3:
                return asked.net.largest;
            case 4:
                return asked.error;
            case 5:
                return asked.place;
            case 6:
                return asked.net.outputDepth();
            case 7:
                return reader.length;
            case 8:
                return writer.length;
            default:
                throw new IllegalArgumentException("no such what");
        }
    }

    private Circuit named(int circuit) {
        if (circuit == 0) {
            return first;
        }
        if (circuit == 1) {
            return second;
        }
        throw new IllegalArgumentException("no such circuit");
    }

    private static void requireStanding(Circuit circuit, int literal) {
        if (!circuit.net.stands(literal)) {
            throw new IllegalArgumentException("no such literal");
        }
    }

    private static void requireVector(Circuit circuit, int vector) {
        if (vector < 0 || vector >= 1 << circuit.net.inputs) {
            throw new IllegalArgumentException("no such vector");
        }
    }

    private static void requireInput(Circuit circuit, int k) {
        if (k < 0 || k >= circuit.net.inputs) {
            throw new NoSuchElementException("no such input");
        }
    }

    private void requireMatch() {
        if (first.net.inputs != second.net.inputs) {
            throw new IllegalStateException("the circuits do not match");
        }
    }

    private int leastDifference(int output) {
        return first.firstDifference(first.net.outputLiterals[output], second, second.net.outputLiterals[output]);
    }

    /**
     * What a text tells: which variables stand for what, and what the gates are made of.
     * Slot 0 is variable 0, the inputs follow in their order, the gates in the text's order.
     */
    private static final class Net {
        static final int NOTHING = -1;
        static final int NOT_PLACED = 1000000;

        final int[] slotOf = new int[MOST_VARIABLES + 1];
        final int[] own = new int[SLOTS];
        final int[] left = new int[SLOTS];
        final int[] right = new int[SLOTS];
        final int[] outputLiterals = new int[MOST_OUTPUTS];
        final int[] depth = new int[SLOTS];

        /** The gates' slots by depth, those of one depth by variable. */
        final int[] order = new int[MOST_GATES];

        /** The gates' slots by variable that have no depth yet. */
        final int[] waiting = new int[MOST_GATES];
        int waitingCount;

        int largest;
        int inputs;
        int gates;
        int outputs;

        Net() {
            begin(0, 0, 0, 0);
        }

        void begin(int variables, int inputCount, int outputCount, int gateCount) {
            largest = variables;
            inputs = inputCount;
            outputs = outputCount;
            gates = gateCount;
            Arrays.fill(slotOf, NOTHING);
            slotOf[0] = 0;
        }

        boolean exists(int literal) {
            return literal >= 0 && literal <= 2 * largest + 1;
        }

        boolean stands(int literal) {
            return exists(literal) && slotFor(literal) != NOTHING;
        }

        boolean isFree(int literal) {
            return exists(literal) && literal % 2 == 0 && slotFor(literal) == NOTHING;
        }

        int slotFor(int literal) {
            return slotOf[literal >> 1];
        }

        boolean isGate(int slot) {
            return slot > inputs;
        }

        void place(int slot, int literal) {
            own[slot] = literal;
            slotOf[literal >> 1] = slot;
        }

        int outputDepth() {
            int most = 0;
            for (int k = 0; k < outputs; k++) {
                most = Math.max(most, depth[slotFor(outputLiterals[k])]);
            }
            return most;
        }

        /** The least variable that is used and stands for nothing, 0 without one. */
        int leastMissing() {
            int least = MOST_VARIABLES + 1;
            for (int k = 0; k < outputs; k++) {
                least = Math.min(least, missingVariable(outputLiterals[k]));
            }
            for (int slot = inputs + 1; slot <= inputs + gates; slot++) {
                least = Math.min(least, missingVariable(left[slot]));
                least = Math.min(least, missingVariable(right[slot]));
            }
            return least > MOST_VARIABLES ? 0 : least;
        }

        private int missingVariable(int literal) {
            return slotFor(literal) == NOTHING ? literal >> 1 : MOST_VARIABLES + 1;
        }

        /** Gives every gate its depth, one layer after another; false when loops keep some waiting. */
        boolean arrange() {
            waitForAll();
            int placed = 0;
            for (int layer = 1; layer <= gates && waitingCount > 0; layer++) {
                int kept = 0;
                for (int i = 0; i < waitingCount; i++) {
                    int slot = waiting[i];
                    if (depth[slotFor(left[slot])] < layer && depth[slotFor(right[slot])] < layer) {
                        depth[slot] = layer;
                        order[placed] = slot;
                        placed++;
                    } else {
                        waiting[kept] = slot;
                        kept++;
                    }
                }
                if (kept == waitingCount) {
                    return false;
                }
                waitingCount = kept;
            }
            return true;
        }

        private void waitForAll() {
            Arrays.fill(depth, 0);
            waitingCount = 0;
            for (int variable = 1; variable <= largest; variable++) {
                int slot = slotOf[variable];
                if (isGate(slot)) {
                    depth[slot] = NOT_PLACED;
                    waiting[waitingCount] = slot;
                    waitingCount++;
                }
            }
        }
    }

    /** Finds gates that are come to again from themselves, among those that a net could not place. */
    private static final class LoopFinder {
        private final int[] trail = new int[MOST_GATES];
        private final int[] reachedFrom = new int[SLOTS];
        private int reached;

        int leastOnLoop(Net net) {
            Arrays.fill(reachedFrom, 0);
            for (int i = 0; i < net.waitingCount; i++) {
                int slot = net.waiting[i];
                if (comesBack(net, slot)) {
                    return net.own[slot] >> 1;
                }
            }
            return 0;
        }

        private boolean comesBack(Net net, int start) {
            reached = 0;
            reachFanins(net, start, start);
            for (int i = 0; i < reached && i < MOST_GATES; i++) {
                if (trail[i] == start) {
                    return true;
                }
                reachFanins(net, start, trail[i]);
            }
            return false;
        }

        private void reachFanins(Net net, int start, int slot) {
            reach(net, start, net.slotFor(net.left[slot]));
            reach(net, start, net.slotFor(net.right[slot]));
        }

        private void reach(Net net, int start, int slot) {
            // a gate that has its depth leads to no loop
            if (net.depth[slot] == Net.NOT_PLACED && reachedFrom[slot] != start && reached < MOST_GATES) {
                reachedFrom[slot] = start;
                trail[reached] = slot;
                reached++;
            }
        }
    }

    /** A net with the functions of all its slots, and what the latest load of it came to. */
    private static final class Circuit {
        static final int GOES_UP = 1;
        static final int GOES_DOWN = 2;

        private static final int BITS_OF_WORD = 64;
        private static final int INPUTS_OF_WORD = 6;
        private static final int MOST_WORDS = 1 << (MOST_INPUTS - INPUTS_OF_WORD);
        private static final int BUCKETS = 512;
        private static final int BUCKET_SHIFT = 55;
        private static final long HASH_FACTOR = 0x9E3779B97F4A7C15L;

        /** The function of input k, for k below 6, at any 64 vectors that begin with a multiple of 64. */
        private static final long[] INPUT_WORDS = {
            0xAAAAAAAAAAAAAAAAL, 0xCCCCCCCCCCCCCCCCL, 0xF0F0F0F0F0F0F0F0L,
            0xFF00FF00FF00FF00L, 0xFFFF0000FFFF0000L, 0xFFFFFFFF00000000L
        };

        Net net = new Net();
        int error;
        int place;

        /** How many different functions there are, an inverse taken for the same. */
        int kinds;

        /** The value at vector x is bit x % 64 of word x / 64 of a slot's row; that of slot 0 stays all 0. */
        private final long[] rows = new long[SLOTS * MOST_WORDS];
        private final long[] hashes = new long[SLOTS];
        private final int[] leaders = new int[SLOTS];

        /** The slots that lead, found by the hash of their functions. */
        private final int[] buckets = new int[BUCKETS];
        private int words;
        private long mask;

        /** Makes all functions of a new net; leaders come first, as slots are entered by depth and variable. */
        void settle() {
            boolean inOneWord = net.inputs < INPUTS_OF_WORD;
            words = inOneWord ? 1 : 1 << (net.inputs - INPUTS_OF_WORD);
            mask = inOneWord ? (1L << (1 << net.inputs)) - 1 : -1L;
            kinds = 0;
            Arrays.fill(buckets, Net.NOTHING);
            enter(0);
            for (int k = 0; k < net.inputs; k++) {
                fillInput(k);
                enter(1 + k);
            }
            for (int i = 0; i < net.gates; i++) {
                fillGate(net.order[i]);
                enter(net.order[i]);
            }
        }

        private void fillInput(int k) {
            int row = (1 + k) * MOST_WORDS;
            for (int w = 0; w < words; w++) {
                if (k < INPUTS_OF_WORD) {
                    rows[row + w] = INPUT_WORDS[k] & mask;
                } else {
                    rows[row + w] = (w >> (k - INPUTS_OF_WORD)) % 2 == 0 ? 0L : -1L;
                }
            }
        }

        private void fillGate(int slot) {
            int row = slot * MOST_WORDS;
            int leftRow = rowOf(net.left[slot]);
            int rightRow = rowOf(net.right[slot]);
            long leftFlip = flipOf(net.left[slot]);
            long rightFlip = flipOf(net.right[slot]);
            for (int w = 0; w < words; w++) {
                rows[row + w] = (rows[leftRow + w] ^ leftFlip) & (rows[rightRow + w] ^ rightFlip);
            }
        }

        private void enter(int slot) {
            hashes[slot] = hashOf(slot);
            int bucket = bucketFor(this, slot);
            int held = buckets[bucket];
            if (held == Net.NOTHING) {
                buckets[bucket] = slot;
                leaders[slot] = net.own[slot];
                kinds++;
            } else {
                leaders[slot] = leaders[held] ^ startBit(held) ^ startBit(slot);
            }
        }

        /** A function and its inverse have the same hash: of both the one is taken that is 0 at vector 0. */
        private long hashOf(int slot) {
            int row = slot * MOST_WORDS;
            long flip = startBit(slot) == 0 ? 0L : mask;
            long hash = 0;
            for (int w = 0; w < words; w++) {
                hash = (hash ^ rows[row + w] ^ flip) * HASH_FACTOR;
                hash ^= hash >>> 29;
            }
            return hash;
        }

        /** Where this circuit holds the function of a slot of another (or itself), or the free bucket for it. */
        private int bucketFor(Circuit other, int slot) {
            int bucket = (int) (other.hashes[slot] >>> BUCKET_SHIFT);
            for (int tried = 0; tried < BUCKETS; tried++) {
                int held = buckets[bucket];
                if (held == Net.NOTHING || isSameOrInverse(held, other, slot)) {
                    return bucket;
                }
                bucket = (bucket + 1) % BUCKETS;
            }
            return bucket;
        }

        boolean isSameOrInverse(int slot, Circuit other, int otherSlot) {
            if (hashes[slot] != other.hashes[otherSlot]) {
                return false;
            }
            int row = slot * MOST_WORDS;
            int otherRow = otherSlot * MOST_WORDS;
            long flip = startBit(slot) == other.startBit(otherSlot) ? 0L : mask;
            for (int w = 0; w < words; w++) {
                if ((rows[row + w] ^ other.rows[otherRow + w]) != flip) {
                    return false;
                }
            }
            return true;
        }

        int kindsNotIn(Circuit other) {
            int count = 0;
            for (int bucket = 0; bucket < BUCKETS; bucket++) {
                int slot = buckets[bucket];
                if (slot != Net.NOTHING && other.buckets[other.bucketFor(this, slot)] == Net.NOTHING) {
                    count++;
                }
            }
            return count;
        }

        int leaderOf(int literal) {
            return leaders[net.slotFor(literal)] ^ (literal & 1);
        }

        private int startBit(int slot) {
            return (int) (rows[slot * MOST_WORDS] & 1L);
        }

        private int rowOf(int literal) {
            return net.slotFor(literal) * MOST_WORDS;
        }

        private long flipOf(int literal) {
            return literal % 2 == 0 ? 0L : mask;
        }

        int bitAt(int literal, int vector) {
            long word = rows[rowOf(literal) + vector / BITS_OF_WORD] ^ flipOf(literal);
            return (int) (word >>> (vector % BITS_OF_WORD)) & 1;
        }

        int firstOne(int literal, int from) {
            int row = rowOf(literal);
            long flip = flipOf(literal);
            int start = from / BITS_OF_WORD;
            for (int w = start; w < words; w++) {
                long word = rows[row + w] ^ flip;
                if (w == start) {
                    word &= -1L << (from % BITS_OF_WORD);
                }
                if (word != 0) {
                    return w * BITS_OF_WORD + Long.numberOfTrailingZeros(word);
                }
            }
            return -1;
        }

        int lastOne(int literal) {
            int row = rowOf(literal);
            long flip = flipOf(literal);
            for (int w = words - 1; w >= 0; w--) {
                long word = rows[row + w] ^ flip;
                if (word != 0) {
                    return w * BITS_OF_WORD + BITS_OF_WORD - 1 - Long.numberOfLeadingZeros(word);
                }
            }
            return -1;
        }

        int firstDifference(int literal, Circuit other, int otherLiteral) {
            int row = rowOf(literal);
            int otherRow = other.rowOf(otherLiteral);
            long flip = flipOf(literal ^ otherLiteral);
            for (int w = 0; w < words; w++) {
                long word = rows[row + w] ^ other.rows[otherRow + w] ^ flip;
                if (word != 0) {
                    return w * BITS_OF_WORD + Long.numberOfTrailingZeros(word);
                }
            }
            return -1;
        }

        boolean isWithin(int literal, int other) {
            int row = rowOf(literal);
            int otherRow = rowOf(other);
            long flip = flipOf(literal);
            long unlike = flipOf(other ^ 1);
            for (int w = 0; w < words; w++) {
                if (((rows[row + w] ^ flip) & (rows[otherRow + w] ^ unlike)) != 0) {
                    return false;
                }
            }
            return true;
        }

        /** Whether the function goes up, goes down, both or neither, somewhere, when input k becomes 1. */
        int movesOf(int literal, int k) {
            int row = rowOf(literal);
            long flip = flipOf(literal);
            long up = 0;
            long down = 0;
            for (int w = 0; w < words; w++) {
                long low = halfWithout(row, w, k) ^ flip;
                long high = halfWith(row, w, k) ^ flip;
                up |= high & ~low;
                down |= low & ~high;
            }
            return (up != 0 ? GOES_UP : 0) | (down != 0 ? GOES_DOWN : 0);
        }

        /** The values near word w with input k 0; each stands at the same bit as its twin with input k 1. */
        private long halfWithout(int row, int w, int k) {
            if (k < INPUTS_OF_WORD) {
                return rows[row + w] & ~INPUT_WORDS[k];
            }
            return rows[row + (w & ~(1 << (k - INPUTS_OF_WORD)))];
        }

        private long halfWith(int row, int w, int k) {
            if (k < INPUTS_OF_WORD) {
                return (rows[row + w] & INPUT_WORDS[k]) >>> (1 << k);
            }
            return rows[row + (w | 1 << (k - INPUTS_OF_WORD))];
        }
    }

    /** Keeps the tape and reads it, up to the first error, into a net that no circuit uses yet. */
    private static final class Reader {
        private static final int NO_KIND = 1;
        private static final int NO_FIRST_LINE = 2;
        private static final int HAS_LATCHES = 3;
        private static final int BAD_SIZES = 4;
        private static final int BAD_FORM = 5;
        private static final int BAD_LITERAL = 6;
        private static final int NOTHING_USED = 7;
        private static final int HAS_LOOP = 8;

        private static final int MOST_DIGITS = 9;
        private static final int NUMBERS_OF_FIRST_LINE = 5;
        private static final int NO_BYTE = -1;
        private static final int NO_STEP = -1;

        int length;
        int error;
        int place;

        private final byte[] bytes = new byte[MOST_TAPE];
        private final int[] numbers = new int[NUMBERS_OF_FIRST_LINE];
        private final int[] starts = new int[NUMBERS_OF_FIRST_LINE];
        private final LoopFinder loops = new LoopFinder();
        private Net net = new Net();
        private int position;
        private boolean binary;

        void append(byte added) {
            if (length < MOST_TAPE) {
                bytes[length] = added;
                length++;
            }
        }

        void readTape() {
            position = 0;
            error = 0;
            place = 0;
            if (takeKind() && takeSizes() && takeInputs() && takeOutputs() && takeGates() && takeEnd()) {
                checkWhole();
            }
            length = 0;
        }

        /** Gives away the net that was read and takes one that is no longer used for the next text. */
        Net exchangeNet(Net unused) {
            Net read = net;
            net = unused;
            return read;
        }

        private boolean fail(int code, int where) {
            error = code;
            place = where;
            return false;
        }

        private int byteAt(int index) {
            return index < length ? bytes[index] & 255 : NO_BYTE;
        }

        private boolean takeKind() {
            int kind = byteAt(1);
            boolean known = byteAt(0) == LETTER_A && (kind == LETTER_A || kind == LETTER_I)
                    && byteAt(2) == LETTER_G && byteAt(3) == BLANK;
            if (!known) {
                return fail(NO_KIND, 0);
            }
            binary = kind == LETTER_I;
            position = 4;
            return true;
        }

        private boolean takeSizes() {
            if (!takeLine(NUMBERS_OF_FIRST_LINE, NO_FIRST_LINE)) {
                return false;
            }
            int variables = numbers[0];
            int inputs = numbers[1];
            int outputs = numbers[3];
            int gates = numbers[4];
            if (numbers[2] != 0) {
                return fail(HAS_LATCHES, 0);
            }
            if (variables > MOST_VARIABLES || inputs > MOST_INPUTS || outputs > MOST_OUTPUTS || gates > MOST_GATES) {
                return fail(BAD_SIZES, 0);
            }
            if (variables < inputs + gates || binary && variables != inputs + gates) {
                return fail(BAD_SIZES, 0);
            }
            net.begin(variables, inputs, outputs, gates);
            return true;
        }

        private boolean takeInputs() {
            for (int slot = 1; slot <= net.inputs; slot++) {
                if (binary) {
                    net.place(slot, 2 * slot);
                } else if (!takeLine(1, BAD_FORM) || !takeOwn(slot)) {
                    return false;
                }
            }
            return true;
        }

        private boolean takeOutputs() {
            for (int k = 0; k < net.outputs; k++) {
                if (!takeLine(1, BAD_FORM) || !takeUsed(0)) {
                    return false;
                }
                net.outputLiterals[k] = numbers[0];
            }
            return true;
        }

        private boolean takeGates() {
            for (int slot = net.inputs + 1; slot <= net.inputs + net.gates; slot++) {
                boolean taken = binary ? takeStepGate(slot) : takeLineGate(slot);
                if (!taken) {
                    return false;
                }
            }
            return true;
        }

        private boolean takeLineGate(int slot) {
            if (!takeLine(3, BAD_FORM) || !takeOwn(slot) || !takeUsed(1) || !takeUsed(2)) {
                return false;
            }
            net.left[slot] = numbers[1];
            net.right[slot] = numbers[2];
            return true;
        }

        private boolean takeStepGate(int slot) {
            int own = 2 * slot;
            net.place(slot, own);
            int start = position;
            int step = takeStep();
            if (step == NO_STEP) {
                return false;
            }
            if (step == 0 || step > own) {
                return fail(BAD_LITERAL, start);
            }
            net.left[slot] = own - step;
            start = position;
            step = takeStep();
            if (step == NO_STEP) {
                return false;
            }
            if (step > net.left[slot]) {
                return fail(BAD_LITERAL, start);
            }
            net.right[slot] = net.left[slot] - step;
            return true;
        }

        private int takeStep() {
            int low = byteAt(position);
            int high = 0;
            if (low >= STEP_BASE) {
                position++;
                low -= STEP_BASE;
                high = byteAt(position);
                if (high == 0 || high >= STEP_BASE) {
                    high = NO_BYTE;
                }
            }
            if (low == NO_BYTE || high == NO_BYTE) {
                fail(BAD_FORM, position);
                return NO_STEP;
            }
            position++;
            return low + STEP_BASE * high;
        }

        private boolean takeEnd() {
            if (position == length) {
                return true;
            }
            if (byteAt(position) != LETTER_C) {
                return fail(BAD_FORM, position);
            }
            return byteAt(position + 1) == LINE_END || fail(BAD_FORM, position + 1);
        }

        private boolean takeLine(int count, int code) {
            for (int i = 0; i < count; i++) {
                if (!takeNumber(i, i == count - 1 ? LINE_END : BLANK, code)) {
                    return false;
                }
            }
            return true;
        }

        /** Takes a number and the one byte that may follow it here. */
        private boolean takeNumber(int index, int follower, int code) {
            starts[index] = position;
            int number = 0;
            int digits = 0;
            int next = byteAt(position);
            while (digits < MOST_DIGITS && next >= DIGIT_ZERO && next <= DIGIT_NINE && (digits == 0 || number > 0)) {
                number = 10 * number + next - DIGIT_ZERO;
                digits++;
                position++;
                next = byteAt(position);
            }
            numbers[index] = number;
            if (digits == 0 || next != follower) {
                return fail(code, position);
            }
            position++;
            return true;
        }

        private boolean takeOwn(int slot) {
            if (!net.isFree(numbers[0])) {
                return fail(BAD_LITERAL, starts[0]);
            }
            net.place(slot, numbers[0]);
            return true;
        }

        private boolean takeUsed(int index) {
            return net.exists(numbers[index]) || fail(BAD_LITERAL, starts[index]);
        }

        private void checkWhole() {
            int missing = net.leastMissing();
            if (missing > 0) {
                fail(NOTHING_USED, missing);
            } else if (!net.arrange()) {
                fail(HAS_LOOP, loops.leastOnLoop(net));
            }
        }
    }

    /** Writes a circuit's text, with the gates alone that outputs need. */
    private static final class Writer {
        private static final int MOST_BYTES = 4096;

        int length;

        private final byte[] bytes = new byte[MOST_BYTES];
        private final int[] depth = new int[SLOTS];
        private final boolean[] needed = new boolean[SLOTS];

        /** A slot's variable in the text. */
        private final int[] number = new int[SLOTS];

        /** The slot of each variable in the text. */
        private final int[] slotOfNumber = new int[SLOTS];

        /** How many needed gates are less deep, then the next number of a depth. */
        private final int[] nextOfDepth = new int[MOST_GATES + 2];
        private boolean reduced;
        private int gates;

        int byteAt(int index) {
            return index >= 0 && index < length ? bytes[index] & 255 : 0;
        }

        int writeText(Circuit circuit, boolean binary, boolean reduceFirst) {
            reduced = reduceFirst;
            measure(circuit);
            markNeeded(circuit);
            numberGates(circuit.net);
            length = 0;
            putFirstLine(circuit.net, binary);
            if (!binary) {
                putInputs(circuit.net);
            }
            putOutputs(circuit);
            for (int i = 1; i <= gates; i++) {
                putGate(circuit, circuit.net.inputs + i, binary);
            }
            return length;
        }

        private int finalLiteral(Circuit circuit, int literal) {
            return reduced ? circuit.leaderOf(literal) : literal;
        }

        private int finalSlot(Circuit circuit, int literal) {
            return circuit.net.slotFor(finalLiteral(circuit, literal));
        }

        /** Leaders are never deeper than what they lead, so the net's order holds for the reduced one too. */
        private void measure(Circuit circuit) {
            Net net = circuit.net;
            Arrays.fill(depth, 0);
            for (int i = 0; i < net.gates; i++) {
                int slot = net.order[i];
                int left = depth[finalSlot(circuit, net.left[slot])];
                int right = depth[finalSlot(circuit, net.right[slot])];
                depth[slot] = 1 + Math.max(left, right);
            }
        }

        private void markNeeded(Circuit circuit) {
            Net net = circuit.net;
            for (int slot = 0; slot < SLOTS; slot++) {
                needed[slot] = false;
            }
            for (int k = 0; k < net.outputs; k++) {
                needed[finalSlot(circuit, net.outputLiterals[k])] = true;
            }
            for (int i = net.gates - 1; i >= 0; i--) {
                int slot = net.order[i];
                if (needed[slot]) {
                    needed[finalSlot(circuit, net.left[slot])] = true;
                    needed[finalSlot(circuit, net.right[slot])] = true;
                }
            }
        }

        private void numberGates(Net net) {
            countDepths(net);
            for (int slot = 0; slot <= net.inputs; slot++) {
                number[slot] = slot;
            }
            for (int variable = 1; variable <= net.largest; variable++) {
                int slot = net.slotOf[variable];
                if (net.isGate(slot) && needed[slot]) {
                    number[slot] = net.inputs + 1 + nextOfDepth[depth[slot]];
                    nextOfDepth[depth[slot]]++;
                    slotOfNumber[number[slot]] = slot;
                }
            }
        }

        private void countDepths(Net net) {
            Arrays.fill(nextOfDepth, 0);
            gates = 0;
            for (int slot = net.inputs + 1; slot <= net.inputs + net.gates; slot++) {
                if (needed[slot]) {
                    gates++;
                    nextOfDepth[depth[slot] + 1]++;
                }
            }
            for (int layer = 1; layer <= MOST_GATES; layer++) {
                nextOfDepth[layer] += nextOfDepth[layer - 1];
            }
        }

        private int newLiteral(Circuit circuit, int literal) {
            int meant = finalLiteral(circuit, literal);
            return 2 * number[circuit.net.slotFor(meant)] + (meant & 1);
        }

        private void putFirstLine(Net net, boolean binary) {
            putByte(LETTER_A);
            putByte(binary ? LETTER_I : LETTER_A);
            putByte(LETTER_G);
            putByte(BLANK);
            putNumber(net.inputs + gates, BLANK);
            putNumber(net.inputs, BLANK);
            putNumber(0, BLANK);
            putNumber(net.outputs, BLANK);
            putNumber(gates, LINE_END);
        }

        private void putInputs(Net net) {
            for (int variable = 1; variable <= net.inputs; variable++) {
                putNumber(2 * variable, LINE_END);
            }
        }

        private void putOutputs(Circuit circuit) {
            for (int k = 0; k < circuit.net.outputs; k++) {
                putNumber(newLiteral(circuit, circuit.net.outputLiterals[k]), LINE_END);
            }
        }

        private void putGate(Circuit circuit, int variable, boolean binary) {
            int slot = slotOfNumber[variable];
            int left = newLiteral(circuit, circuit.net.left[slot]);
            int right = newLiteral(circuit, circuit.net.right[slot]);
            int greater = Math.max(left, right);
            int lesser = Math.min(left, right);
            if (binary) {
                putStep(2 * variable - greater);
                putStep(greater - lesser);
            } else {
                putNumber(2 * variable, BLANK);
                putNumber(greater, BLANK);
                putNumber(lesser, LINE_END);
            }
        }

        private void putStep(int step) {
            if (step < STEP_BASE) {
                putByte(step);
            } else {
                putByte(step % STEP_BASE + STEP_BASE);
                putByte(step / STEP_BASE);
            }
        }

        /** A written number is below 1000. */
        private void putNumber(int written, int follower) {
            if (written >= 100) {
                putByte(DIGIT_ZERO + written / 100);
            }
            if (written >= 10) {
                putByte(DIGIT_ZERO + written / 10 % 10);
            }
            putByte(DIGIT_ZERO + written % 10);
            putByte(follower);
        }

        private void putByte(int added) {
            if (length < MOST_BYTES) {
                bytes[length] = (byte) added;
                length++;
            }
        }
    }
}
