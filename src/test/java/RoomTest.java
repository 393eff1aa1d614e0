import java.lang.management.ManagementFactory;
import java.lang.reflect.Array;
import java.lang.reflect.Field;
import java.lang.reflect.Modifier;
import java.util.ArrayDeque;
import java.util.IdentityHashMap;
import java.util.Map;

/** All calls of a run live in one room: what an object holds at most, and that calls make nothing more. */
public final class RoomTest {
    private static final int MOST_OBJECTS = 200;
    private static final int MOST_FIELDS = 120_000;
    private static int wrong;
    private static long sink;

    public static void main(String[] args) throws IllegalAccessException {
        EvenBodies x = new EvenBodies();
        due("a new object", x, 60, 1_000);
        useAll(x);
        due("an object with all in use", x, MOST_OBJECTS, MOST_FIELDS);
        makesNothing(x);
        System.out.println(wrong == 0 ? "there is room" : wrong + " times there is no room");
        if (wrong != 0) {
            System.exit(1);
        }
    }

    private static void due(String what, EvenBodies x, int objects, int fields) throws IllegalAccessException {
        int[] held = held(x);
        System.out.println(what + " holds " + held[0] + " objects, " + held[1] + " fields and elements");
        if (held[0] > objects || held[1] > fields) {
            wrong++;
            System.out.println("that is above " + objects + ", " + fields);
        }
    }

    private static void makesNothing(EvenBodies x) {
        com.sun.management.ThreadMXBean bean = (com.sun.management.ThreadMXBean) ManagementFactory.getThreadMXBean();
        long id = Thread.currentThread().getId();
        bean.getThreadAllocatedBytes(id);
        long before = bean.getThreadAllocatedBytes(id);
        useAll(x);
        long made = bean.getThreadAllocatedBytes(id) - before;
        // The reading itself may make a little.
        if (made > 2_000) {
            wrong++;
            System.out.println("calls that were made before made " + made + " bytes more");
        }
    }

    private static void useAll(EvenBodies x) {
        for (int b = 0; b < 4; b++) {
            x.body(b, 4);
            x.angle(b, 0, 1, 3);
            x.angle(b, 1, 2, 3);
            x.angle(b, 2, 3, 4);
            for (int set = 1; set < 16; set++) {
                x.ring(b, set);
                sink += x.law(b) + x.far(b, 0, 1) + x.ways(b, 0, 1, 12) + x.coloured(b) + x.mirrors(b);
                sink += x.corners(b, 15, 0) + x.cornerOf(b, 0, 3, 0) + x.liesIn(b, 0, 0, 15, 0);
            }
            x.body(b, 3);
            x.angle(b, 0, 1, 3);
            x.angle(b, 1, 2, 5);
            x.ring(b, 7);
            sink += x.unlike(b) + x.snubFar(b, 1, 2) + x.dualFar(b) + x.round(b, 0) + x.classSize(b, 7);
            sink += x.order(b, 210, b) + x.element(b, 123) + x.turns(b, 9) + x.alike(b, 0) + x.digest();
        }
    }

    private static int[] held(Object root) throws IllegalAccessException {
        Map<Object, Boolean> seen = new IdentityHashMap<>();
        ArrayDeque<Object> queue = new ArrayDeque<>();
        queue.add(root);
        seen.put(root, true);
        int fields = 0;
        while (!queue.isEmpty()) {
            Object next = queue.poll();
            if (next.getClass().isArray()) {
                fields += Array.getLength(next);
                if (next instanceof Object[] many) {
                    for (Object one : many) {
                        add(one, seen, queue);
                    }
                }
                continue;
            }
            for (Field field : next.getClass().getDeclaredFields()) {
                if (!Modifier.isStatic(field.getModifiers())) {
                    fields++;
                    field.setAccessible(true);
                    if (!field.getType().isPrimitive()) {
                        add(field.get(next), seen, queue);
                    }
                }
            }
        }
        return new int[] {seen.size(), fields};
    }

    private static void add(Object one, Map<Object, Boolean> seen, ArrayDeque<Object> queue) {
        if (one != null && seen.put(one, true) == null) {
            queue.add(one);
        }
    }
}
