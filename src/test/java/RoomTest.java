import java.lang.management.ManagementFactory;
import java.lang.reflect.Array;
import java.lang.reflect.Field;
import java.lang.reflect.Modifier;
import java.util.ArrayDeque;
import java.util.Collections;
import java.util.Deque;
import java.util.IdentityHashMap;
import java.util.Set;

/** The room of a run: what an object holds is made with it, stays as much, and no call makes an object. */
public final class RoomTest {
    /** A run's room is 600,000 objects and 7.3 million elements; one object of the class is to be far below both. */
    private static final long MOST_OBJECTS = 100, MOST_ELEMENTS = 30_000;
    private static final int CALLS = 512, METHODS = 17;
    private static final int ROUNDS_OF_DEAREST = 20;
    private static int sum = 0;

    public static void main(String[] args) throws ReflectiveOperationException {
        for (int nodes = 2; nodes <= 6; nodes++) {
            PartitionPlay x = new PartitionPlay(nodes);
            long[] atFirst = held(x);
            Due.due("few objects of " + nodes + " nodes: " + atFirst[0], atFirst[0] <= MOST_OBJECTS ? 1 : 0, 1);
            Due.due("few elements of " + nodes + " nodes: " + atFirst[1], atFirst[1] <= MOST_ELEMENTS ? 1 : 0, 1);
            use(x);
            Due.due("objects behind " + CALLS + " calls", held(x)[0], atFirst[0]);
            Due.due("elements behind " + CALLS + " calls", held(x)[1], atFirst[1]);
        }
        nothingIsMade();
        Due.end();
    }

    private static void nothingIsMade() {
        if (!(ManagementFactory.getThreadMXBean() instanceof com.sun.management.ThreadMXBean meter)
                || !meter.isThreadAllocatedMemorySupported()) {
            System.out.println("this machine does not count what is made");
            return;
        }
        PartitionPlay x = new PartitionPlay(6);
        use(x);
        useDearest(x);
        long thread = Thread.currentThread().getId();
        meter.getThreadAllocatedBytes(thread);
        long before = meter.getThreadAllocatedBytes(thread);
        use(x);
        useDearest(x);
        long made = meter.getThreadAllocatedBytes(thread) - before;
        // A single object in one of the methods comes to this at least, over all calls of it.
        Due.due("bytes made by calls: " + made, made < CALLS / METHODS * 16 ? 1 : 0, 1);
    }

    /** Each call in turn, with numbers that go over the edges of what it takes. */
    private static void use(PartitionPlay x) {
        for (int i = 0; i < CALLS; i++) {
            sum += answer(x, i % METHODS, i / METHODS);
        }
    }

    private static int answer(PartitionPlay x, int method, int i) {
        switch (method) {
            case 0: return x.behaviour(i % 7, i % 5);
            case 1: return x.delay(i % 7, (i + 1) % 5, i % 7);
            case 2: return x.tell(i % 7, i % 9);
            case 3: return x.event(i % 8, i % 12, i % 4, 1 + i % 5);
            case 4: return x.drop(i % 30);
            case 5: return x.told(i % 20, i % 5);
            case 6: return x.play(41 - i);
            case 7: return x.height(i, i % 7);
            case 8: return x.holds(i);
            case 9: return x.fails();
            case 10: return x.letter(i, i % 8);
            case 11: return x.reached(i % 9);
            case 12: return x.bytes(i % 7);
            case 13: return x.shrink();
            case 14: return x.minimal();
            case 15: return x.sets(i % 7);
            default: return x.count(i % 8);
        }
    }

    /** The greatest play that fails, with all events that there is room for. */
    private static void useDearest(PartitionPlay x) {
        for (int round = 0; round < ROUNDS_OF_DEAREST; round++) {
            for (int node = 0; node < 6; node++) {
                sum += x.behaviour(node, node < 4 ? 1 : 0);
            }
            for (int event = 0; event <= 20; event++) {
                sum += x.event(event < 4 ? 2 : 5, 1, event < 4 ? event : event - 4, 5);
            }
            sum += x.play(40) + x.sets(5) + x.minimal() + x.shrink() + x.sets(5) + x.minimal();
        }
    }

    /** Objects and arrays that are reached from an object, and their fields and elements. */
    private static long[] held(Object root) throws ReflectiveOperationException {
        Set<Object> seen = Collections.newSetFromMap(new IdentityHashMap<>());
        Deque<Object> open = new ArrayDeque<>();
        open.add(root);
        long elements = 0;
        while (!open.isEmpty()) {
            Object next = open.remove();
            if (seen.add(next)) {
                elements += next.getClass().isArray() ? lookIntoArray(next, open) : lookIntoObject(next, open);
            }
        }
        return new long[] {seen.size(), elements};
    }

    private static int lookIntoArray(Object array, Deque<Object> open) {
        int length = Array.getLength(array);
        for (int i = 0; i < length && !array.getClass().getComponentType().isPrimitive(); i++) {
            addIfAny(Array.get(array, i), open);
        }
        return length;
    }

    private static int lookIntoObject(Object object, Deque<Object> open) throws ReflectiveOperationException {
        int fields = 0;
        for (Field field : object.getClass().getDeclaredFields()) {
            if (!Modifier.isStatic(field.getModifiers())) {
                fields++;
                field.setAccessible(true);
                if (!field.getType().isPrimitive()) {
                    addIfAny(field.get(object), open);
                }
            }
        }
        return fields;
    }

    private static void addIfAny(Object object, Deque<Object> open) {
        if (object != null) {
            open.add(object);
        }
    }
}
