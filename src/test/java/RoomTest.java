import java.lang.management.ManagementFactory;
import java.lang.reflect.Array;
import java.lang.reflect.Field;
import java.lang.reflect.Modifier;
import java.util.Collections;
import java.util.IdentityHashMap;
import java.util.Set;

/** The room: what an object holds is small, and no call makes anything. */
public final class RoomTest {
    private static final com.sun.management.ThreadMXBean THREADS =
            (com.sun.management.ThreadMXBean) ManagementFactory.getThreadMXBean();
    private static final Due d = new Due();
    private static long objects;
    private static long places;

    public static void main(String[] args) throws IllegalAccessException {
        ForestKeeper x = new ForestKeeper();
        measure(x);
        System.out.println(objects + " objects and arrays, " + places + " fields and elements");
        d.is("few objects", objects < 100 ? 1 : 0, 1);
        d.is("few fields and elements", places < 8000 ? 1 : 0, 1);
        long before = objects + places;
        long answers = allCalls(x);
        measure(x);
        d.is("calls hold nothing new", objects + places, before);
        for (int i = 0; i < 50; i++) {
            answers += allCalls(new ForestKeeper());
        }
        ForestKeeper y = new ForestKeeper();
        // The first askings load classes, which makes things too.
        made();
        made();
        long made = made();
        answers += allCalls(y);
        made = made() - made;
        System.out.println(made + " bytes made by all calls, and by asking for that");
        // Each call stands there a hundred times: one that makes anything makes more than this.
        d.is("calls make nothing", made < 1000 ? 1 : 0, 1);
        System.out.println("a sum of all answers: " + answers);
        d.finish();
    }

    private static long made() {
        return THREADS.getThreadAllocatedBytes(Thread.currentThread().getId());
    }

    private static void measure(Object of) throws IllegalAccessException {
        objects = 0;
        places = 0;
        measure(of, Collections.newSetFromMap(new IdentityHashMap<>()));
    }

    private static void measure(Object of, Set<Object> seen) throws IllegalAccessException {
        if (of == null || !seen.add(of)) {
            return;
        }
        objects++;
        if (of.getClass().isArray()) {
            places += Array.getLength(of);
            if (!of.getClass().getComponentType().isPrimitive()) {
                for (Object part : (Object[]) of) {
                    measure(part, seen);
                }
            }
            return;
        }
        for (Field f : of.getClass().getDeclaredFields()) {
            if (!Modifier.isStatic(f.getModifiers())) {
                places++;
                f.setAccessible(true);
                if (!f.getType().isPrimitive()) {
                    measure(f.get(of), seen);
                }
            }
        }
    }

    private static long allCalls(ForestKeeper x) {
        long all = x.kind(1);
        for (int i = 0; i <= 100; i++) {
            all += x.knot(i);
        }
        for (int i = 0; i <= 300; i++) {
            all += x.edge(i % 100, (i * 7 + 1) % 100, i);
        }
        for (int i = 0; i < 100; i++) {
            int a = i * 13 % 100;
            all += x.instead(i) + x.cut(i) + x.told(i, i % 6) + x.weight(i) + x.count(i % 10);
            all += x.total() + x.together(i, a) + x.size(i) + x.member(i, a) + x.way(i, a);
            all += x.between(i, a, 1) + x.heaviest(i, a) + x.sum(i, a) + x.least(i, a);
            all += x.add(i, a, i) + x.value(i) + x.set(i, a) + x.root(i) + x.below(i, i % 6);
            all += x.meet(i, a) + x.sumBelow(i) + x.addBelow(i, i) + (i % 3 == 0 ? x.undo() : 0);
            all += x.put(i % 6, i % 5, i, a) + x.forge(i % 6, i % 9, i % 12) + x.status();
        }
        return all;
    }
}
