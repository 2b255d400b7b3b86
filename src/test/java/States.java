import java.util.LinkedHashMap;
import java.util.Map;

/** Objects in states of every kind, each made anew whenever it is asked for. */
final class States {
    static final String XOR = "aag 6 2 0 2 4\n2\n4\n11\n13\n6 2 5\n8 3 4\n10 7 9\n12 3 5\n";
    static final String GAPS = "aag 7 2 0 3 2\n10\n4\n6\n13\n0\n6 10 4\n12 6 11\n";
    static final String ONE = "aig 2 1 0 1 1\n5\n\1\1";

    interface Maker {
        Twin make();
    }

    private States() {
    }

    static Map<String, Maker> all() {
        Map<String, Maker> all = new LinkedHashMap<>();
        all.put("new", Twin::new);
        all.put("matching", States::matching);
        all.put("behind errors", States::behindErrors);
        all.put("half a text", States::halfText);
        all.put("not matching", States::notMatching);
        all.put("full", States::full);
        return all;
    }

    /** With a text on the tape and another in OUT. */
    private static Twin matching() {
        Twin twin = Check.twin(XOR, GAPS);
        twin.write(0, true, false);
        Check.feed(twin, Check.bytes(ONE));
        return twin;
    }

    /** The latest loads of both circuits were wrong, and they were the latest calls. */
    private static Twin behindErrors() {
        Twin twin = Check.twin(GAPS, XOR);
        twin.write(1, false, true);
        Check.due("a wrong load of circuit 0", 7, () -> Check.load(twin, 0, "aag 9 1 0 1 0\n2\n18\n"));
        Check.due("a wrong load of circuit 1", 2, () -> Check.load(twin, 1, "aag 0 0"));
        return twin;
    }

    /** The tape has the beginning of a text. */
    private static Twin halfText() {
        Twin twin = Check.twin(XOR, XOR);
        twin.write(0, false, false);
        Check.feed(twin, Check.bytes("aag 3 2 0 1 1\n2\n4\n6\n6 "));
        return twin;
    }

    private static Twin notMatching() {
        Twin twin = Check.twin(XOR, ONE);
        twin.write(1, false, false);
        Check.feed(twin, Check.bytes(GAPS + "c\n"));
        return twin;
    }

    /** As many inputs, gates, outputs and variables as can be. */
    private static Twin full() {
        Twin twin = Check.twin(new RandomTexts(17).aig(14, 300, 16), Texts.wide(20));
        twin.write(0, true, false);
        Check.feed(twin, Check.bytes(Texts.chain(true, 314, 14, 16, 300)));
        return twin;
    }
}
