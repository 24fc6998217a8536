import java.lang.management.ManagementFactory;
import java.lang.reflect.Array;
import java.lang.reflect.Field;
import java.lang.reflect.Modifier;
import java.util.ArrayDeque;
import java.util.Collections;
import java.util.Deque;
import java.util.IdentityHashMap;
import java.util.Set;

/** All rows are made with the object: no call makes one, however many words there are. */
public final class RoomTest {
    private static final long MOST_OF_AN_OBJECT = 40_000;
    /** What the machine itself may make while it counts. */
    private static final long MOST_OF_A_RUN = 4_000;
    /** The room of a run, shared out to as many new objects as a run could have calls. */
    private static final int MOST_OBJECTS = 600_000 / 512, MOST_ELEMENTS = 7_300_000 / 512;

    private final Set<Object> seen = Collections.newSetFromMap(new IdentityHashMap<>());
    private final Deque<Object> open = new ArrayDeque<>();
    private int elements;

    public static void main(String[] args) throws IllegalAccessException {
        bytes();
        RoomTest room = new RoomTest();
        room.count(new BlindPages());
        System.out.println(room.seen.size() + " objects and arrays, " + room.elements + " fields and elements");
        if (room.seen.size() > MOST_OBJECTS || room.elements > MOST_ELEMENTS) System.exit(1);
    }

    private static void bytes() {
        run(new BlindPages());
        long start = made();
        BlindPages x = new BlindPages();
        long object = made() - start;
        start = made();
        run(x);
        long calls = made() - start;
        System.out.println(object + " bytes for an object, " + calls + " for its calls");
        if (object > MOST_OF_AN_OBJECT || calls > MOST_OF_A_RUN) System.exit(1);
    }

    private static long made() {
        com.sun.management.ThreadMXBean bean = (com.sun.management.ThreadMXBean) ManagementFactory.getThreadMXBean();
        return bean.getThreadAllocatedBytes(Thread.currentThread().getId());
    }

    private void count(Object whole) throws IllegalAccessException {
        reach(whole);
        while (!open.isEmpty()) {
            Object o = open.pop();
            if (o.getClass().isArray()) countArray(o);
            else countFields(o);
        }
    }

    private void reach(Object o) {
        if (o != null && seen.add(o)) open.push(o);
    }

    private void countArray(Object array) {
        int n = Array.getLength(array);
        elements += n;
        if (array.getClass().getComponentType().isPrimitive()) return;
        for (int i = 0; i < n; i++) reach(Array.get(array, i));
    }

    private void countFields(Object o) throws IllegalAccessException {
        for (Field f : o.getClass().getDeclaredFields()) {
            if (Modifier.isStatic(f.getModifiers())) continue;
            elements++;
            f.setAccessible(true);
            if (!f.getType().isPrimitive()) reach(f.get(o));
        }
    }

    private static void run(BlindPages x) {
        for (int i = 0; i < 6; i++) x.draw(100 + i, 8, 24, 26);
        x.type('+');
        x.type('0');
        x.type(';');
        for (int i = 0; i < 40; i++) {
            x.does();
            x.deals(4 + i % 5);
            x.digest();
            x.back();
            x.finds(i % 4);
            x.all(4 + i % 3);
        }
        x.clear();
        x.type('q');
        for (int i = 0; i < 20; i++) {
            x.add();
            x.takeOut();
            x.finds(2);
            x.way(i % 5, i % 6);
            x.looks(i % 12, i % 4);
            x.begins(i % 2);
            x.between(i);
            x.page(i, i % 7);
            x.fork(i % 12, i % 4, i % 4);
        }
        x.anew();
    }
}
