import java.lang.reflect.InvocationTargetException;
import java.lang.reflect.Method;
import java.lang.reflect.Modifier;
import java.util.ArrayList;
import java.util.List;

/**
 * Rule 7 of LANGUAGE.md: no call throws, for any arguments in any state. Each call meets all
 * pairings of numbers at and beyond the document's limits, in states from the empty one to the
 * full one; each answer, and what is left after it, is held against NaiveForest's.
 */
public final class AnyArgumentsTest {
    private static final int MIN = Integer.MIN_VALUE, MAX = Integer.MAX_VALUE;
    private static final int[] INTS = {MIN, MIN + 1, -101, -100, -1, 0, 1, 2, 5, 6, 8, 9,
        99, 100, 101, 299, 300, 301, MAX - 1, MAX};
    // put() has four numbers, so that all pairings of the longer row would be too many.
    private static final int[] FEWER_INTS = {MIN, -1, 0, 1, 3, 5, 6, 99, 100, MAX};
    private static final long[] LONGS = {Long.MIN_VALUE, -1, 1, Long.MAX_VALUE, ForestKeeper.NO};
    private static final List<String> CHANGING = List.of("knot", "kind", "edge", "cut", "add",
            "set", "root", "addBelow", "undo", "put", "forge");
    private static final String[] STATES = {"new", "one knot", "two joined", "a net", "a net, cut",
        "a net, undone", "full", "full, all cut"};
    private static final Due d = new Due();

    private final ForestKeeper x = new ForestKeeper();
    private final NaiveForest y = new NaiveForest();
    private final String state;

    private AnyArgumentsTest(int kind, int number) {
        state = STATES[number] + ", kind " + kind;
        does("kind", kind);
        if (number > 0) {
            build(number);
        }
    }

    public static void main(String[] args) {
        List<Method> asking = new ArrayList<>();
        for (Method m : ForestKeeper.class.getDeclaredMethods()) {
            if (Modifier.isPublic(m.getModifiers()) && !CHANGING.contains(m.getName())) {
                asking.add(m);
            }
        }
        for (int kind = 0; kind <= 2; kind++) {
            for (int number = 0; number < STATES.length && !d.anyWrong(); number++) {
                AnyArgumentsTest asked = new AnyArgumentsTest(kind, number);
                for (Method m : asking) {
                    asked.allArguments(m);
                }
                for (String name : CHANGING) {
                    AnyArgumentsTest changed = new AnyArgumentsTest(kind, number);
                    changed.allArguments(named(name));
                    changed.compare();
                }
            }
        }
        d.is("calls that only ask", asking.size(), 18);
        d.finish();
    }

    private static Method named(String name) {
        for (Method m : ForestKeeper.class.getDeclaredMethods()) {
            if (m.getName().equals(name) && Modifier.isPublic(m.getModifiers())) {
                return m;
            }
        }
        throw new IllegalStateException("no public method " + name);
    }

    private void build(int number) {
        int knots = number == 1 ? 1 : number == 2 ? 2 : number < 6 ? 7 : 100;
        for (int k = 0; k < knots; k++) {
            does("knot", k * 3L);
        }
        int edges = number == 1 ? 0 : number == 2 ? 1 : number < 6 ? 14 : 300;
        for (int e = 0; e < edges; e++) {
            does("edge", e % knots, (e + 1 + e / knots * 2) % knots, (long) (e * 7 % 11));
        }
        does("root", knots - 1);
        for (int tray = 0; tray < 5; tray++) {
            does("put", tray, tray, 0, 0);
        }
        if (number == 4 || number == 7) {
            for (int e = 0; e < edges; e += number == 4 ? 3 : 1) {
                does("cut", e);
            }
        }
        for (int i = 0; i < 25 && number == 5; i++) {
            does("undo");
        }
    }

    private void does(String name, Object... with) {
        call(named(name), with);
    }

    /** Each number of the call takes each value of its row, as the figures of a counter do. */
    private void allArguments(Method m) {
        Class<?>[] types = m.getParameterTypes();
        int[] ints = types.length > 3 ? FEWER_INTS : INTS;
        int[] at = new int[types.length];
        Object[] with = new Object[types.length];
        int place = 0;
        while (place < types.length || types.length == 0) {
            for (int i = 0; i < types.length; i++) {
                with[i] = types[i] == int.class ? (Object) ints[at[i]] : (Object) LONGS[at[i]];
            }
            call(m, with);
            if (types.length == 0) {
                return;
            }
            place = 0;
            while (place < types.length
                    && ++at[place] == (types[place] == int.class ? ints.length : LONGS.length)) {
                at[place] = 0;
                place++;
            }
        }
    }

    private void call(Method m, Object... with) {
        StringBuilder text = new StringBuilder(state).append(": ").append(m.getName());
        for (Object one : with) {
            text.append(' ').append(one);
        }
        try {
            long got = ((Number) m.invoke(x, with)).longValue();
            Method same = NaiveForest.class.getDeclaredMethod(m.getName(), m.getParameterTypes());
            d.is(text.toString(), got, ((Number) same.invoke(y, with)).longValue());
        } catch (InvocationTargetException thrown) {
            d.is(text + " threw " + thrown.getCause(), 1, 0);
        } catch (ReflectiveOperationException none) {
            throw new IllegalStateException(none);
        }
    }

    /** What is left: all numbers, and again when all that can be undone is. */
    private void compare() {
        does("status");
        for (int undone = 0; undone < 2; undone++) {
            for (int what = 0; what <= 8; what++) {
                does("count", what);
            }
            does("total");
            for (int e = 0; e < y.count(1); e++) {
                does("told", e, 0);
                does("told", e, 3);
                does("weight", e);
            }
            for (int k = 0; k < y.count(0); k++) {
                does("value", k);
                does("below", k, 0);
            }
            for (int i = 0; i < 21; i++) {
                does("undo");
            }
        }
    }
}
