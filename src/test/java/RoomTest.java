import java.lang.reflect.Array;
import java.lang.reflect.Field;
import java.lang.reflect.Modifier;
import java.util.ArrayDeque;
import java.util.Deque;
import java.util.IdentityHashMap;
import java.util.Map;

/**
 * How much room objects take: a run has room for 600,000 objects and 7,300,000 fields and elements. 512 calls that
 * each make a new object, and 512 calls that each make a commit, must stay far below both.
 */
public final class RoomTest {
    private static final Checks CHECKS = new Checks();
    private static final int OBJECTS_MOST = 600_000, ELEMENTS_MOST = 7_300_000, CALLS = 512;

    private int objects;
    private int elements;

    public static void main(String[] args) throws IllegalAccessException {
        RoomTest fresh = new RoomTest();
        fresh.measure(new LateChecks());
        fresh.fits("new objects", CALLS);

        LateChecks x = new LateChecks();
        for (int n = 0; n < CALLS; n++) {
            x.put(n % 8, n);
        }
        RoomTest used = new RoomTest();
        used.measure(x);
        used.fits("an object of 512 commits", 1);

        Checks.tell(x, "all;item 0 1;begin 0;read 0 0;write 0 1 1;send 0");
        x.vote(0);
        x.vote(1);
        x.settle();
        RoomTest again = new RoomTest();
        again.measure(x);
        CHECKS.due("objects when rows are used again", again.objects, used.objects);
        CHECKS.due("elements when rows are used again", again.elements, used.elements);
        CHECKS.end("RoomTest");
    }

    private void fits(String what, int times) {
        System.out.println(what + ": " + times + " times " + objects + " objects, " + elements + " fields and elements");
        CHECKS.due("objects of " + what + " fit ten times", (long) objects * times * 10 <= OBJECTS_MOST ? 1 : 0, 1);
        CHECKS.due("elements of " + what + " fit ten times", (long) elements * times * 10 <= ELEMENTS_MOST ? 1 : 0, 1);
    }

    private void measure(Object root) throws IllegalAccessException {
        Map<Object, Object> seen = new IdentityHashMap<>();
        Deque<Object> open = new ArrayDeque<>();
        open.add(root);
        while (!open.isEmpty()) {
            Object o = open.remove();
            if (seen.put(o, o) != null) {
                continue;
            }
            objects++;
            if (o.getClass().isArray()) {
                measureArray(o, open);
            } else {
                measureFields(o, open);
            }
        }
    }

    private void measureArray(Object array, Deque<Object> open) {
        elements += Array.getLength(array);
        for (int i = 0; i < Array.getLength(array) && !array.getClass().getComponentType().isPrimitive(); i++) {
            if (Array.get(array, i) != null) {
                open.add(Array.get(array, i));
            }
        }
    }

    private void measureFields(Object o, Deque<Object> open) throws IllegalAccessException {
        for (Field f : o.getClass().getDeclaredFields()) {
            if (Modifier.isStatic(f.getModifiers())) {
                continue;
            }
            elements++;
            f.setAccessible(true);
            if (!f.getType().isPrimitive() && f.get(o) != null) {
                open.add(f.get(o));
            }
        }
    }
}
