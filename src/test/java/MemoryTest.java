import java.lang.management.ManagementFactory;
import java.lang.reflect.Array;
import java.lang.reflect.Field;
import java.lang.reflect.Modifier;
import java.util.IdentityHashMap;

/** All memory is made in the constructor, once: what an object holds, and that calls make nothing. */
final class MemoryTest {
    private static final long ROOM_OF_OBJECTS = 600000;
    private static final long ROOM_OF_ELEMENTS = 7300000;

    /** So many objects of the class at least must have room together. */
    private static final int OBJECTS = 30;

    /** How often every call is made on each object; all of them are fewer than 512. */
    private static final int ROUNDS = 4;

    private static final IdentityHashMap<Object, Boolean> SEEN = new IdentityHashMap<>();
    private static long elements = 0;

    public static void main(String[] args) throws IllegalAccessException {
        Check.sentence("All memory is the class's own, made once.");
        CircuitTwin[] twins = new CircuitTwin[OBJECTS];
        for (int i = 0; i < OBJECTS; i++) {
            twins[i] = new CircuitTwin();
        }
        count(twins[0]);
        int objects = SEEN.size();
        Check.due("few objects: " + objects, true, () -> objects * OBJECTS < ROOM_OF_OBJECTS);
        Check.due("few elements: " + elements, true, () -> elements * OBJECTS < ROOM_OF_ELEMENTS);
        RandomTexts texts = new RandomTexts(3);
        byte[] first = Check.bytes(texts.aig(14, 100, 16));
        byte[] second = Check.bytes(texts.aig(14, 60, 16));
        // what the machine itself makes for a first call is not counted
        callAll(new CircuitTwin(), first, second);
        long before = madeSoFar();
        for (CircuitTwin twin : twins) {
            for (int round = 0; round < ROUNDS; round++) {
                callAll(twin, first, second);
            }
        }
        long made = madeSoFar() - before;
        Check.due("bytes that calls made: " + made, true, () -> made < 16384);
        Check.end();
    }

    private static long madeSoFar() {
        com.sun.management.ThreadMXBean bean = (com.sun.management.ThreadMXBean) ManagementFactory.getThreadMXBean();
        return bean.getThreadAllocatedBytes(Thread.currentThread().getId());
    }

    private static void callAll(CircuitTwin twin, byte[] first, byte[] second) {
        loadInto(twin, 0, first);
        loadInto(twin, 1, second);
        twin.literal(0, 1, 0);
        twin.value(0, 40, 0);
        twin.compare();
        twin.witness(0);
        twin.least(0, 40, 0);
        twin.greatest(0, 40);
        twin.same(40, 2);
        twin.implies(0, 40, 50);
        twin.depends(0, 40, 3);
        twin.rises(0, 40, 9);
        twin.leader(0, 40);
        twin.functions(0);
        twin.allFunctions();
        twin.write(0, true, true);
        twin.write(0, false, false);
        twin.out(0);
        twin.look(0, 6);
    }

    private static void loadInto(CircuitTwin twin, int circuit, byte[] text) {
        for (int from = 0; from < text.length; from += 8) {
            long v = 0;
            int n = Math.min(8, text.length - from);
            for (int i = n - 1; i >= 0; i--) {
                v = v << 8 | text[from + i] & 255;
            }
            twin.feed(n, v);
        }
        twin.load(circuit);
    }

    private static void count(Object made) throws IllegalAccessException {
        if (made == null || SEEN.put(made, true) != null) {
            return;
        }
        if (made.getClass().isArray()) {
            elements += Array.getLength(made);
            for (int i = 0; i < Array.getLength(made) && made instanceof Object[]; i++) {
                count(Array.get(made, i));
            }
            return;
        }
        for (Field field : made.getClass().getDeclaredFields()) {
            if (!Modifier.isStatic(field.getModifiers())) {
                elements++;
                field.setAccessible(true);
                if (!field.getType().isPrimitive()) {
                    count(field.get(made));
                }
            }
        }
    }
}
