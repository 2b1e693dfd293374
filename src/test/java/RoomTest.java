import java.lang.management.ManagementFactory;
import java.lang.reflect.Array;
import java.lang.reflect.Field;
import java.lang.reflect.Modifier;
import java.util.ArrayDeque;
import java.util.Collections;
import java.util.Deque;
import java.util.IdentityHashMap;
import java.util.Set;

/** All calls of a run live in one room: what an object holds at the most, and that calls leave nothing behind. */
public final class RoomTest {
    private static int objects;
    private static long elements;

    private static void measure(Object root) throws IllegalAccessException {
        Set<Object> seen = Collections.newSetFromMap(new IdentityHashMap<>());
        Deque<Object> todo = new ArrayDeque<>();
        todo.add(root);
        objects = 0;
        elements = 0;
        while (!todo.isEmpty()) {
            Object o = todo.poll();
            if (!seen.add(o)) {
                continue;
            }
            objects++;
            if (o.getClass().isArray()) {
                int length = Array.getLength(o);
                elements += length;
                for (int k = 0; k < length && !o.getClass().getComponentType().isPrimitive(); k++) {
                    if (Array.get(o, k) != null) {
                        todo.add(Array.get(o, k));
                    }
                }
            } else {
                for (Field f : o.getClass().getDeclaredFields()) {
                    if (!Modifier.isStatic(f.getModifiers())) {
                        elements++;
                        f.setAccessible(true);
                        if (!f.getType().isPrimitive() && f.get(o) != null) {
                            todo.add(f.get(o));
                        }
                    }
                }
            }
        }
    }

    private static void work(RolledBack x, String text) {
        Due.feed(x, text);
        x.work(text.length());
    }

    private static long allocated() {
        return ((com.sun.management.ThreadMXBean) ManagementFactory.getThreadMXBean()).getCurrentThreadAllocatedBytes();
    }

    public static void main(String[] args) throws IllegalAccessException {
        RolledBack x = new RolledBack();
        measure(x);
        Due.equal("a new object is small: " + objects + " " + elements, objects < 200 && elements < 60000, true);
        for (int k = 0; k < 16; k++) {
            work(x, "make 0 " + (k + 1) + ";grow 1 5;put 1 3 4;");
        }
        for (int k = 0; k < 3; k++) {
            x.image();
        }
        measure(x);
        Due.equal("a full one: " + objects + " " + elements, objects < 2000 && elements < 600000, true);
        long before = allocated();
        for (int k = 0; k < 512; k++) {
            x.span(k, 5, 96, k % 17, 0, 0);
            x.fewest();
            x.spill(0);
            x.sweeps();
            x.look(0);
            x.restore();
            x.undo();
            x.work(0);
            x.image();
        }
        long bytes = allocated() - before;
        // Five small objects a span, and nothing else.
        Due.equal("512 of the dearest calls took " + bytes + " bytes", bytes < 512 * 5 * 64, true);
        Due.end();
    }
}
