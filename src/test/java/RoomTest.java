import java.lang.reflect.Array;
import java.lang.reflect.Field;
import java.lang.reflect.Modifier;
import java.util.ArrayDeque;
import java.util.Collections;
import java.util.Deque;
import java.util.IdentityHashMap;
import java.util.Set;

/**
 * All calls of one run live in one room of some 600,000 objects and arrays, 7.3 million fields and elements;
 * nothing is ever given back. LanguageTest sees to it that calls make nothing but what an object keeps.
 */
public final class RoomTest {
    private static final Checks c = new Checks();

    public static void main(String[] args) throws ReflectiveOperationException {
        long[] empty = held(new NearlyShut());
        long[] full = held(full());
        System.out.println("a new object: " + empty[0] + " objects, " + empty[1] + " elements; a full one: " + full[0] + ", " + full[1]);
        // a run of nothing but new objects
        c.due("objects of 512 new ones", 512 * empty[0] < 600000, true);
        c.due("elements of 512 new ones", 512 * empty[1] < 7300000, true);
        c.due("elements of a full one", full[1] < 30000, true);
        c.end("RoomTest");
    }

    /** Twelve orders, four marks, and each made more than once. */
    private static NearlyShut full() {
        NearlyShut x = new NearlyShut();
        for (int i = 0; i < 12; i++) {
            Checks.order(x, 0, 0, "force 1 + 2 if not [ day > 3 or done = 0 ]");
            Checks.order(x, 0, 0, "force 1 + 2 if not [ day > 3 or done = 0 ] ?");
            for (int k = 0; k < 4; k++) x.mark(k);
            x.back(i % 4);
        }
        return x;
    }

    private static long[] held(Object root) throws ReflectiveOperationException {
        Set<Object> known = Collections.newSetFromMap(new IdentityHashMap<>());
        Deque<Object> next = new ArrayDeque<>();
        next.add(root);
        known.add(root);
        long elements = 0;
        while (!next.isEmpty()) {
            Object o = next.remove();
            if (o.getClass().isArray()) {
                elements += Array.getLength(o);
                if (o.getClass().getComponentType().isPrimitive()) continue;
                for (Object part : (Object[]) o) reach(part, known, next);
            } else {
                for (Field f : o.getClass().getDeclaredFields()) {
                    if (Modifier.isStatic(f.getModifiers())) continue;
                    elements++;
                    f.setAccessible(true);
                    if (!f.getType().isPrimitive()) reach(f.get(o), known, next);
                }
            }
        }
        return new long[] {known.size(), elements};
    }

    private static void reach(Object part, Set<Object> known, Deque<Object> next) {
        if (part != null && known.add(part)) next.add(part);
    }
}
