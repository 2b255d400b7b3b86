import java.nio.charset.StandardCharsets;
import java.util.ArrayList;
import java.util.BitSet;
import java.util.HashSet;
import java.util.List;
import java.util.Set;

/** Every call on many circuits by chance, held against the model: promises 3 to 19. */
final class ModelTest {
    private static final RandomTexts TEXTS = new RandomTexts(20261115L);

    private static Twin used = new Twin();

    public static void main(String[] args) {
        for (int run = 0; run < 1500; run++) {
            int inputs = TEXTS.below(9);
            run("small " + run, someText(inputs, 30), someText(TEXTS.below(12) == 0 ? TEXTS.below(9) : inputs, 30));
        }
        for (int run = 0; run < 12; run++) {
            int inputs = 10 + TEXTS.below(5);
            run("wide " + run, someText(inputs, 60), someText(inputs, 60));
        }
        run("full aig", TEXTS.aig(14, 300, 16), TEXTS.aig(14, 300, 16));
        run("full aag", TEXTS.aag(14, 300, 16), TEXTS.aig(14, 5, 16));
        everyByte();
        spoiledTexts();
        loops();
        Check.end();
    }

    private static String someText(int inputs, int mostGates) {
        return TEXTS.text(inputs, TEXTS.below(mostGates + 1), TEXTS.below(5));
    }

    private static void run(String name, String first, String second) {
        Twin twin = Check.twin(first, second);
        Model[] models = {Model.read(first), Model.read(second)};
        for (int c = 0; c < 2; c++) {
            Model model = models[c];
            int circuit = c;
            Check.due(name + " is right in the model", 0, () -> model.error);
            looks(name, twin, circuit, model);
            literals(name, twin, circuit, model);
            for (int literal : someLiterals(model)) {
                ofLiteral(name, twin, circuit, model, literal);
            }
            Check.due(name + " functions", model.kinds().size(), () -> twin.functions(circuit));
            writes(name, twin, circuit, model);
        }
        both(name, twin, models[0], models[1]);
    }

    private static void looks(String name, Twin twin, int circuit, Model model) {
        int[] due = {model.inputs.size(), model.gates.size(), model.outputs.size(), model.largest, 0, 0,
            model.outputDepth(), 0};
        for (int what = 0; what < due.length; what++) {
            int asked = what;
            Check.due(name + " look " + what, due[what], () -> twin.look(circuit, asked));
        }
    }

    private static void literals(String name, Twin twin, int circuit, Model model) {
        List<Integer> gates = new ArrayList<>();
        for (int[] gate : model.gates) {
            gates.add(gate[0]);
        }
        List<List<Integer>> due = List.of(model.inputs, gates, model.outputs);
        for (int what = 0; what < 3; what++) {
            for (int k = -1; k <= due.get(what).size(); k++) {
                int w = what;
                int at = k;
                boolean is = k >= 0 && k < due.get(what).size();
                Check.due(name + " literal " + what + " " + k, is ? due.get(what).get(k) : Check.ELEMENT,
                        () -> twin.literal(circuit, w, at));
            }
        }
    }

    private static List<Integer> someLiterals(Model model) {
        List<Integer> chosen = new ArrayList<>();
        for (int literal = -1; literal <= 2 * model.largest + 2; literal++) {
            if (model.largest < 10 || TEXTS.below(model.largest) < 10) {
                chosen.add(literal);
            }
        }
        return chosen;
    }

    private static void ofLiteral(String name, Twin twin, int c, Model model, int literal) {
        String call = name + " circuit " + c + " literal " + literal;
        boolean stands = literal >= 0 && literal <= 2 * model.largest + 1 && model.variables().contains(literal / 2);
        int x = TEXTS.below(model.vectors());
        int k = model.inputs.isEmpty() ? 0 : TEXTS.below(model.inputs.size());
        int other = 2 * (int) model.variables().toArray()[TEXTS.below(model.variables().size())] + TEXTS.below(2);
        if (!stands) {
            Check.due(call, Check.ARGUMENT, () -> twin.value(c, literal, x));
            Check.due(call, Check.ARGUMENT, () -> twin.least(c, literal, x));
            Check.due(call, Check.ARGUMENT, () -> twin.greatest(c, literal));
            Check.due(call, Check.ARGUMENT, () -> twin.implies(c, literal, other));
            Check.due(call, Check.ARGUMENT, () -> twin.implies(c, other, literal));
            Check.due(call, Check.ARGUMENT, () -> twin.depends(c, literal, k));
            Check.due(call, Check.ARGUMENT, () -> twin.rises(c, literal, k));
            Check.due(call, Check.ARGUMENT, () -> twin.leader(c, literal));
            return;
        }
        BitSet function = model.function(literal);
        Check.due(call + " value at " + x, function.get(x) ? 1 : 0, () -> twin.value(c, literal, x));
        Check.due(call + " least from " + x, function.nextSetBit(x), () -> twin.least(c, literal, x));
        Check.due(call + " greatest", function.length() - 1, () -> twin.greatest(c, literal));
        BitSet rest = (BitSet) function.clone();
        rest.andNot(model.function(other));
        Check.due(call + " implies " + other, rest.isEmpty(), () -> twin.implies(c, literal, other));
        boolean isInput = !model.inputs.isEmpty();
        Check.due(call + " depends on " + k, isInput ? model.rises(literal, k) != 2 : Check.ELEMENT,
                () -> twin.depends(c, literal, k));
        Check.due(call + " rises with " + k, isInput ? model.rises(literal, k) : Check.ELEMENT,
                () -> twin.rises(c, literal, k));
        Check.due(call + " leader", model.leader(literal), () -> twin.leader(c, literal));
    }

    private static void writes(String name, Twin twin, int circuit, Model model) {
        for (int form = 0; form < 4; form++) {
            boolean binary = form % 2 == 1;
            boolean reduced = form / 2 == 1;
            byte[] due = (reduced ? model.reduced() : model).write(binary);
            String call = name + " write " + binary + " " + reduced;
            Check.due(call, due.length, () -> twin.write(circuit, binary, reduced));
            Check.due(call + " text", new String(due, StandardCharsets.ISO_8859_1), () -> Check.outText(twin));
        }
    }

    private static void both(String name, Twin twin, Model first, Model second) {
        if (first.inputs.size() != second.inputs.size()) {
            Check.due(name + " compare", Check.STATE, () -> twin.compare());
            Check.due(name + " witness", Check.STATE, () -> twin.witness(0));
            Check.due(name + " same", Check.STATE, () -> twin.same(0, 1));
            Check.due(name + " allFunctions", Check.STATE, () -> twin.allFunctions());
            return;
        }
        int least = -1;
        int shared = Math.min(first.outputs.size(), second.outputs.size());
        for (int k = shared - 1; k >= 0; k--) {
            BitSet difference = (BitSet) first.function(first.outputs.get(k)).clone();
            difference.xor(second.function(second.outputs.get(k)));
            least = difference.isEmpty() ? least : k;
            int output = k;
            Check.due(name + " witness " + k, difference.nextSetBit(0), () -> twin.witness(output));
        }
        Check.due(name + " witness " + shared, Check.ELEMENT, () -> twin.witness(shared));
        Check.due(name + " compare", first.outputs.size() == second.outputs.size() ? least : -2, () -> twin.compare());
        Set<BitSet> kinds = new HashSet<>(first.kinds());
        kinds.addAll(second.kinds());
        Check.due(name + " allFunctions", kinds.size(), () -> twin.allFunctions());
        for (int i = 0; i < 20; i++) {
            int literal = TEXTS.below(2 * first.largest + 2);
            int other = TEXTS.below(2 * second.largest + 2);
            Check.due(name + " same " + literal + " " + other, sameDue(first, second, literal, other),
                    () -> twin.same(literal, other));
        }
    }

    private static Object sameDue(Model first, Model second, int literal, int other) {
        if (!first.variables().contains(literal / 2) || !second.variables().contains(other / 2)) {
            return Check.ARGUMENT;
        }
        if (first.function(literal).equals(second.function(other))) {
            return 1;
        }
        return first.function(literal).equals(second.function(other ^ 1)) ? -1 : 0;
    }

    /** Texts with every byte of theirs in turn made every other one, left out, and put in once more. */
    private static void everyByte() {
        int[] met = new int[9];
        String aag = "aag 13 2 0 2 3\n12\n4\n8\n27\n8 12 5\n26 8 10\n10 0 13\nc\n";
        String aig = "aig 66 1 0 1 65\n132\n" + "\2\0".repeat(64) + "\2\200\1";
        String small = "aig 3 1 0 1 2\n6\n\1\1\2\3";
        for (String text : new String[] {aag, small, aig}) {
            for (int at = 0; at < text.length(); at++) {
                String before = text.substring(0, at);
                String behind = text.substring(at + 1);
                for (int b = 0; b < 256; b++) {
                    checkError(before + (char) b + behind, met);
                }
                checkError(before + behind, met);
                checkError(before + text.charAt(at) + text.charAt(at) + behind, met);
            }
        }
    }

    private static void spoiledTexts() {
        int[] met = new int[9];
        for (int run = 0; run < 40000; run++) {
            int inputs = TEXTS.below(4);
            String text = TEXTS.spoiled(TEXTS.text(inputs, TEXTS.below(run % 10 == 0 ? 80 : 6), TEXTS.below(3)));
            checkError(text, met);
        }
        for (int error = 0; error < met.length; error++) {
            int times = met[error];
            Check.due("some spoiled texts have error " + error, true, () -> times > 0);
        }
    }

    /** Gates on any literals at all: many texts with loops, some of which only lead to one. */
    private static void loops() {
        int[] met = new int[9];
        for (int run = 0; run < 5000; run++) {
            int inputs = TEXTS.below(5);
            int gates = 1 + TEXTS.below(8);
            StringBuilder text = new StringBuilder();
            text.append("aag " + (inputs + gates) + " " + inputs + " 0 0 " + gates + "\n");
            for (int k = 1; k <= inputs; k++) {
                text.append(2 * k + "\n");
            }
            for (int k = gates; k >= 1; k--) {
                text.append(2 * (inputs + k) + " " + TEXTS.below(2 * (inputs + gates) + 2));
                text.append(" " + TEXTS.below(2 * inputs + 2) + "\n");
            }
            checkError(text.toString(), met);
        }
        Check.due("loops are met", true, () -> met[8] > 1000);
        Check.due("not all are loops", true, () -> met[0] > 100);
    }

    /** On one object again and again, but for no more calls than the document allows. */
    private static void checkError(String text, int[] met) {
        Model model = Model.read(text);
        met[model.error]++;
        if (used.callsLeft() < text.length() / 8 + 3) {
            used = new Twin();
        }
        Twin twin = used;
        Check.due("load of " + text, model.error, () -> Check.load(twin, 0, text));
        Check.due("place in " + text, model.place, () -> twin.look(0, 5));
    }
}
