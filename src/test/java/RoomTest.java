import java.lang.reflect.Array;
import java.lang.reflect.Field;
import java.lang.reflect.Modifier;
import java.util.ArrayDeque;
import java.util.Collections;
import java.util.IdentityHashMap;
import java.util.Set;

/** The object is made with all its rows, stays small beside the room of a run, and does not grow. */
final class RoomTest {
    private int objects = 0;
    private int parts = 0;

    public static void main(String[] args) throws IllegalAccessException {
        WorldDeltas w = new WorldDeltas();
        RoomTest before = measured(w);
        longestCalls(w);
        RoomTest after = measured(w);
        System.out.println(before.objects + " objects and arrays with " + before.parts + " fields and elements");
        Check.due("few objects", before.objects < 6_000, true);
        Check.due("few fields and elements", before.parts < 73_000, true);
        Check.due("objects after a run", after.objects, before.objects);
        Check.due("fields and elements after a run", after.parts, before.parts);
        Check.end();
    }

    private static void longestCalls(WorldDeltas w) {
        for (int e = 0; e < 16; e++) {
            w.place(e, 2 * e, 31 - e, e % 4, e);
            w.setVelocity(e, e % 7 - 3, 3 - e % 5);
        }
        for (int c = 0; c < 3; c++) {
            w.connect(c, 16, 16, 31, 64);
        }
        w.setTimes(10, 1);
        for (int i = 0; i < 200; i++) {
            w.tick(50);
            w.digest();
        }
    }

    private static RoomTest measured(Object root) throws IllegalAccessException {
        RoomTest room = new RoomTest();
        Set<Object> seen = Collections.newSetFromMap(new IdentityHashMap<>());
        ArrayDeque<Object> waiting = new ArrayDeque<>();
        waiting.add(root);
        seen.add(root);
        while (!waiting.isEmpty()) {
            room.count(waiting.remove(), seen, waiting);
        }
        return room;
    }

    private void count(Object o, Set<Object> seen, ArrayDeque<Object> waiting) throws IllegalAccessException {
        objects++;
        if (o.getClass().isArray()) {
            for (int i = 0; i < Array.getLength(o); i++) {
                follow(o.getClass().getComponentType(), Array.get(o, i), seen, waiting);
            }
            return;
        }
        for (Field f : o.getClass().getDeclaredFields()) {
            if (!Modifier.isStatic(f.getModifiers())) {
                f.setAccessible(true);
                follow(f.getType(), f.get(o), seen, waiting);
            }
        }
    }

    private void follow(Class<?> type, Object value, Set<Object> seen, ArrayDeque<Object> waiting) {
        parts++;
        if (!type.isPrimitive() && value != null && seen.add(value)) {
            waiting.add(value);
        }
    }
}
