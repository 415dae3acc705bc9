import java.lang.reflect.Array;
import java.lang.reflect.Field;
import java.lang.reflect.Modifier;
import java.util.ArrayDeque;
import java.util.Collections;
import java.util.Deque;
import java.util.IdentityHashMap;
import java.util.Set;

/** The room that an object takes: even 512 new ones stay within what one run has. (Calls make none.) */
public final class Room {
    private static final int CALLS = 512, OBJECTS = 600000, ELEMENTS = 7300000;

    private static int objects = 0;
    private static int elements = 0;

    public static void main(String[] args) throws IllegalAccessException {
        count(new CurrentFarms());
        System.out.println("a new object: " + objects + " objects and arrays, " + elements + " fields and elements");
        if (objects * CALLS > OBJECTS || elements * CALLS > ELEMENTS) System.exit(1);
    }

    private static void count(Object first) throws IllegalAccessException {
        Set<Object> seen = Collections.newSetFromMap(new IdentityHashMap<>());
        Deque<Object> open = new ArrayDeque<>();
        open.add(first);
        while (!open.isEmpty()) {
            Object one = open.pop();
            if (!seen.add(one)) continue;
            objects++;
            if (one.getClass().isArray()) {
                elements += Array.getLength(one);
                continue;
            }
            for (Field f : one.getClass().getDeclaredFields()) {
                if (Modifier.isStatic(f.getModifiers())) continue;
                elements++;
                f.setAccessible(true);
                if (!f.getType().isPrimitive() && f.get(one) != null) open.add(f.get(one));
            }
        }
    }
}
