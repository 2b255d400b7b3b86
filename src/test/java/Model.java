import java.io.ByteArrayOutputStream;
import java.util.ArrayList;
import java.util.BitSet;
import java.util.Comparator;
import java.util.HashMap;
import java.util.HashSet;
import java.util.List;
import java.util.Map;
import java.util.Set;
import java.util.TreeMap;
import java.util.TreeSet;
import java.util.regex.Matcher;
import java.util.regex.Pattern;

/** The document again, in the plainest and slowest words: what the program is held against. */
final class Model {
    private static final String NUMBER = "(0|[1-9][0-9]{0,8})";

    int largest;
    int error;
    int place;
    final List<Integer> inputs = new ArrayList<>();
    final List<Integer> outputs = new ArrayList<>();

    /** Own literal, left, right, in the order of the text. */
    final List<int[]> gates = new ArrayList<>();

    private final Map<Integer, BitSet> functionOf = new HashMap<>();
    private final Map<Integer, Integer> depthOf = new HashMap<>();

    private static final class Fault extends RuntimeException {
        private static final long serialVersionUID = 1L;
        final int error;
        final int place;

        Fault(int error, int place) {
            this.error = error;
            this.place = place;
        }
    }

    // ---- reading

    static Model read(String text) {
        Model model = new Model();
        try {
            model.readAll(text);
        } catch (Fault fault) {
            Model wrong = new Model();
            wrong.error = fault.error;
            wrong.place = fault.place;
            return wrong;
        }
        return model;
    }

    private void readAll(String text) {
        boolean binary = text.startsWith("aig ");
        if (!binary && !text.startsWith("aag ")) {
            throw new Fault(1, 0);
        }
        int at = 4;
        int[] sizes = line(text, at, 5, 2);
        at = text.indexOf('\n') + 1;
        if (sizes[2] != 0) {
            throw new Fault(3, 0);
        }
        long sum = (long) sizes[1] + sizes[4];
        if (sizes[0] > 1000 || sizes[1] > 14 || sizes[3] > 16 || sizes[4] > 300 || sizes[0] < sum
                || binary && sizes[0] != sum) {
            throw new Fault(4, 0);
        }
        largest = sizes[0];
        for (int k = 0; k < sizes[1]; k++) {
            if (binary) {
                inputs.add(2 * k + 2);
                continue;
            }
            int own = line(text, at, 1, 5)[0];
            checkOwn(own, at);
            inputs.add(own);
            at = text.indexOf('\n', at) + 1;
        }
        for (int k = 0; k < sizes[3]; k++) {
            int used = line(text, at, 1, 5)[0];
            checkUsed(used, at);
            outputs.add(used);
            at = text.indexOf('\n', at) + 1;
        }
        for (int k = 0; k < sizes[4]; k++) {
            at = binary ? steps(text, at, 2 * (sizes[1] + 1 + k)) : gateLine(text, at);
        }
        if (at < text.length() && !text.startsWith("c\n", at)) {
            throw new Fault(5, text.charAt(at) == 'c' ? at + 1 : at);
        }
        checkNothing();
        checkLoops();
    }

    /** The numbers of a line; the fault stands at the end of the longest beginning that can still go on. */
    private static int[] line(String text, int at, int count, int error) {
        Pattern form = Pattern.compile(NUMBER + (" " + NUMBER).repeat(count - 1) + "\n");
        for (int end = at; end <= text.length(); end++) {
            Matcher matcher = form.matcher(text.substring(at, end));
            if (matcher.matches()) {
                int[] numbers = new int[count];
                for (int i = 0; i < count; i++) {
                    numbers[i] = Integer.parseInt(matcher.group(i + 1));
                }
                return numbers;
            }
            if (!matcher.hitEnd()) {
                throw new Fault(error, end - 1);
            }
        }
        throw new Fault(error, text.length());
    }

    private int gateLine(String text, int at) {
        int[] three = line(text, at, 3, 5);
        int second = text.indexOf(' ', at) + 1;
        int third = text.indexOf(' ', second) + 1;
        checkOwn(three[0], at);
        checkUsed(three[1], second);
        checkUsed(three[2], third);
        gates.add(three);
        return text.indexOf('\n', at) + 1;
    }

    private int steps(String text, int at, int own) {
        int[] p = step(text, at);
        if (p[0] == 0 || p[0] > own) {
            throw new Fault(6, at);
        }
        int[] q = step(text, p[1]);
        if (q[0] > own - p[0]) {
            throw new Fault(6, p[1]);
        }
        gates.add(new int[] {own, own - p[0], own - p[0] - q[0]});
        return q[1];
    }

    /** A step, and where what follows begins. */
    private static int[] step(String text, int at) {
        if (at >= text.length()) {
            throw new Fault(5, text.length());
        }
        int low = text.charAt(at);
        if (low <= 127) {
            return new int[] {low, at + 1};
        }
        if (at + 1 >= text.length() || text.charAt(at + 1) == 0 || text.charAt(at + 1) > 127) {
            throw new Fault(5, at + 1);
        }
        return new int[] {low - 128 + 128 * text.charAt(at + 1), at + 2};
    }

    private void checkOwn(int literal, int at) {
        if (literal % 2 == 1 || literal < 2 || literal > 2 * largest + 1 || variables().contains(literal / 2)) {
            throw new Fault(6, at);
        }
    }

    private void checkUsed(int literal, int at) {
        if (literal > 2 * largest + 1) {
            throw new Fault(6, at);
        }
    }

    private void checkNothing() {
        TreeSet<Integer> used = new TreeSet<>();
        for (int output : outputs) {
            used.add(output / 2);
        }
        for (int[] gate : gates) {
            used.add(gate[1] / 2);
            used.add(gate[2] / 2);
        }
        used.removeAll(variables());
        if (!used.isEmpty()) {
            throw new Fault(7, used.first());
        }
    }

    private void checkLoops() {
        TreeMap<Integer, BitSet> reach = new TreeMap<>();
        for (int[] gate : gates) {
            BitSet next = new BitSet();
            next.set(gate[1] / 2);
            next.set(gate[2] / 2);
            reach.put(gate[0] / 2, next);
        }
        for (int middle : reach.keySet()) {
            for (BitSet from : reach.values()) {
                if (from.get(middle)) {
                    from.or(reach.get(middle));
                }
            }
        }
        for (int variable : reach.keySet()) {
            if (reach.get(variable).get(variable)) {
                throw new Fault(8, variable);
            }
        }
    }

    // ---- what it is

    /** All variables that stand for something, and 0. */
    TreeSet<Integer> variables() {
        TreeSet<Integer> all = new TreeSet<>();
        all.add(0);
        for (int input : inputs) {
            all.add(input / 2);
        }
        for (int[] gate : gates) {
            all.add(gate[0] / 2);
        }
        return all;
    }

    int vectors() {
        return 1 << inputs.size();
    }

    private int[] gateOf(int variable) {
        for (int[] gate : gates) {
            if (gate[0] / 2 == variable) {
                return gate;
            }
        }
        return null;
    }

    BitSet function(int literal) {
        BitSet known = functionOf.get(literal);
        if (known != null) {
            return known;
        }
        BitSet made = new BitSet();
        int[] gate = gateOf(literal / 2);
        if (literal % 2 == 1) {
            made.or(function(literal - 1));
            made.flip(0, vectors());
        } else if (gate != null) {
            made.or(function(gate[1]));
            made.and(function(gate[2]));
        } else if (literal != 0) {
            int k = inputs.indexOf(literal);
            for (int x = 0; x < vectors(); x++) {
                made.set(x, (x >> k) % 2 == 1);
            }
        }
        functionOf.put(literal, made);
        return made;
    }

    int depth(int literal) {
        int[] gate = gateOf(literal / 2);
        if (gate == null) {
            return 0;
        }
        Integer known = depthOf.get(literal / 2);
        if (known == null) {
            known = 1 + Math.max(depth(gate[1]), depth(gate[2]));
            depthOf.put(literal / 2, known);
        }
        return known;
    }

    int outputDepth() {
        int most = 0;
        for (int output : outputs) {
            most = Math.max(most, depth(output));
        }
        return most;
    }

    int leader(int literal) {
        int best = literal;
        for (int variable : variables()) {
            for (int other = 2 * variable; other <= 2 * variable + 1; other++) {
                if (function(other).equals(function(literal))) {
                    int order = Integer.compare(depth(other), depth(best));
                    best = order < 0 || order == 0 && other < best ? other : best;
                }
            }
        }
        return best;
    }

    /** Every function, or its inverse if that is 0 at vector 0 and it is not. */
    Set<BitSet> kinds() {
        Set<BitSet> all = new HashSet<>();
        for (int variable : variables()) {
            all.add(function(function(2 * variable).get(0) ? 2 * variable + 1 : 2 * variable));
        }
        return all;
    }

    int rises(int literal, int k) {
        boolean up = false;
        boolean down = false;
        for (int x = 0; x < vectors(); x++) {
            boolean low = function(literal).get(x & ~(1 << k));
            boolean high = function(literal).get(x | 1 << k);
            up |= high && !low;
            down |= low && !high;
        }
        return up ? (down ? 0 : 1) : down ? -1 : 2;
    }

    // ---- writing

    Model reduced() {
        Model small = new Model();
        small.largest = largest;
        small.inputs.addAll(inputs);
        for (int output : outputs) {
            small.outputs.add(leader(output));
        }
        for (int[] gate : gates) {
            if (leader(gate[0]) == gate[0]) {
                small.gates.add(new int[] {gate[0], leader(gate[1]), leader(gate[2])});
            }
        }
        return small;
    }

    byte[] write(boolean binary) {
        Map<Integer, Integer> renamed = new HashMap<>();
        renamed.put(0, 0);
        for (int k = 0; k < inputs.size(); k++) {
            renamed.put(inputs.get(k) / 2, k + 1);
        }
        Set<Integer> needed = new HashSet<>();
        for (int output : outputs) {
            need(output, needed);
        }
        List<int[]> kept = new ArrayList<>();
        for (int[] gate : gates) {
            if (needed.contains(gate[0] / 2)) {
                kept.add(gate);
            }
        }
        kept.sort(Comparator.<int[]>comparingInt(gate -> depth(gate[0])).thenComparingInt(gate -> gate[0]));
        for (int[] gate : kept) {
            renamed.put(gate[0] / 2, renamed.size());
        }
        ByteArrayOutputStream text = new ByteArrayOutputStream();
        int all = inputs.size() + kept.size();
        put(text, (binary ? "aig " : "aag ") + all + " " + inputs.size() + " 0 " + outputs.size() + " " + kept.size() + "\n");
        for (int k = 0; k < inputs.size() && !binary; k++) {
            put(text, (2 * k + 2) + "\n");
        }
        for (int output : outputs) {
            put(text, rename(output, renamed) + "\n");
        }
        for (int[] gate : kept) {
            putGate(text, binary, rename(gate[0], renamed), rename(gate[1], renamed), rename(gate[2], renamed));
        }
        return text.toByteArray();
    }

    private static void putGate(ByteArrayOutputStream text, boolean binary, int own, int one, int two) {
        int greater = Math.max(one, two);
        int lesser = Math.min(one, two);
        if (!binary) {
            put(text, own + " " + greater + " " + lesser + "\n");
            return;
        }
        for (int step : new int[] {own - greater, greater - lesser}) {
            if (step < 128) {
                text.write(step);
            } else {
                text.write(step % 128 + 128);
                text.write(step / 128);
            }
        }
    }

    private void need(int literal, Set<Integer> needed) {
        int[] gate = gateOf(literal / 2);
        if (gate != null && needed.add(literal / 2)) {
            need(gate[1], needed);
            need(gate[2], needed);
        }
    }

    private static int rename(int literal, Map<Integer, Integer> renamed) {
        return 2 * renamed.get(literal / 2) + literal % 2;
    }

    private static void put(ByteArrayOutputStream text, String added) {
        text.writeBytes(Check.bytes(added));
    }
}
