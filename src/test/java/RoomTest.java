import com.sun.management.ThreadMXBean;
import java.lang.management.ManagementFactory;
import java.lang.reflect.Array;
import java.lang.reflect.Field;
import java.lang.reflect.Modifier;
import java.util.Collections;
import java.util.IdentityHashMap;
import java.util.Set;

/** The one room of a run: what a new object takes of it, and that no later call takes more. */
public final class RoomTest implements Words {
    /** Should each of 512 calls make an object anew, all of them together still have room (600,000 and 7.3 million). */
    private static final int MOST_OBJECTS = 600_000 / 512, MOST_ELEMENTS = 7_300_000 / 512;
    private static final int TRIES = 20;
    private static final Check check = new Check("RoomTest");

    private final Set<Object> seen = Collections.newSetFromMap(new IdentityHashMap<>());
    private int elements;

    public static void main(String[] args) throws IllegalAccessException {
        aNewObject();
        laterCalls();
        check.end();
    }

    private static void aNewObject() throws IllegalAccessException {
        RoomTest room = new RoomTest();
        room.walk(new CallGraphs());
        check.due("objects and arrays of a new object are few: " + room.seen.size(), room.seen.size() <= MOST_OBJECTS, true);
        check.due("fields and elements of a new object are few: " + room.elements, room.elements <= MOST_ELEMENTS, true);
    }

    private void walk(Object object) throws IllegalAccessException {
        if (object == null || !seen.add(object)) return;
        if (object.getClass().isArray()) {
            walkArray(object);
            return;
        }
        for (Field field : object.getClass().getDeclaredFields()) {
            if (Modifier.isStatic(field.getModifiers())) continue;
            elements++;
            field.setAccessible(true);
            if (!field.getType().isPrimitive()) walk(field.get(object));
        }
    }

    private void walkArray(Object array) throws IllegalAccessException {
        int length = Array.getLength(array);
        elements += length;
        if (array.getClass().getComponentType().isPrimitive()) return;
        for (int i = 0; i < length; i++) walk(Array.get(array, i));
    }

    /** The machine may make things of its own while it warms up, so the best of some tries counts. */
    private static void laterCalls() {
        if (!(ManagementFactory.getThreadMXBean() instanceof ThreadMXBean threads)) return;
        if (!threads.isThreadAllocatedMemorySupported()) return;
        long least = Long.MAX_VALUE;
        for (int i = 0; i < TRIES; i++) {
            CallGraphs g = new CallGraphs();
            long before = threads.getCurrentThreadAllocatedBytes();
            useAll(g);
            least = Math.min(least, threads.getCurrentThreadAllocatedBytes() - before);
        }
        check.due("bytes that the calls behind the first one make", least, 0L);
    }

    /** Every call of the face, taken and refused, on a program with every sort of OP. */
    private static void useAll(CallGraphs g) {
        g.type(FACE, NONE);
        g.type(CLASS, NONE);
        g.type(CLASS, 1);
        g.face(2, 0);
        g.face(2, 0);
        for (int name = 0; name < 10; name++) g.member(1, name, name % 2 == 0 ? PLAIN : SHARED);
        g.member(0, 0, PLAIN);
        g.member(2, 9, PLAIN);
        g.member(2, 0, START);
        for (int kind = NEW; kind <= ANY; kind++) {
            g.op(0, kind, kind < PUT ? 2 : 0, kind == PUT ? 2 : 1);
            g.op(11, kind, kind < PUT ? 1 : 0, 0);
            g.op(1, kind, 99, 99);
        }
        g.root(0, true);
        g.root(1, true);
        for (int i = -1; i < 12; i++) {
            g.count(i);
            g.under(2, i);
            g.found(2, i);
            g.chosen(2, 1, i);
            g.about(0, i);
            g.made(2, i);
            g.callee(0, i, 0);
            g.faults(0, i, MISSING);
            g.caller(i, 0);
            g.way(i, 0);
            g.run(i, i % 6);
            g.holds(i);
        }
    }
}
