import java.util.Random;

/** Runs of calls drawn by a fixed seed, each answer held against NaiveForest's. */
public final class RandomRunsTest {
    private static final Due d = new Due();
    private static final int[] WILD = {-1, -2, 100, 101, 300, -100, -101,
        Integer.MIN_VALUE, Integer.MAX_VALUE};
    private static final long[] WILD_LONGS = {Long.MIN_VALUE, Long.MAX_VALUE, -1, 0, 1,
        1L << 32, ForestKeeper.NO};

    private final Random random;
    private final int run;
    private final ForestKeeper x = new ForestKeeper();
    private final NaiveForest y = new NaiveForest();
    private int calls = 0;

    private RandomRunsTest(int run) {
        this.run = run;
        this.random = new Random(run);
    }

    public static void main(String[] args) {
        int highest = 0;
        for (int run = 0; run < 420 && !d.anyWrong(); run++) {
            new RandomRunsTest(run).mixed(run % 3, 2 + run / 3 % 14, 512);
        }
        for (int run = 1000; run < 1006 && !d.anyWrong(); run++) {
            highest = Math.max(highest, new RandomRunsTest(run).dense(run % 3, 100));
        }
        for (int run = 2000; run < 2004 && !d.anyWrong(); run++) {
            highest = Math.max(highest, new RandomRunsTest(run).halving());
        }
        System.out.println("the highest LEVEL was " + highest);
        d.is("a LEVEL of 5 was seen", highest, 5);
        d.finish();
    }

    /** All calls, with few KNOTS, so that rings, cuts and refusals come often. */
    private void mixed(int kind, int knots, int length) {
        is("kind", x.kind(kind), y.kind(kind));
        for (int k = 0; k < knots; k++) {
            long v = number();
            is("knot", x.knot(v), y.knot(v));
        }
        for (int i = 0; i < length && !d.anyWrong(); i++) {
            change();
            ask();
        }
        compareAll();
    }

    /** Many KNOTS and EDGES, till they are FULL, then cuts among askings. */
    private int dense(int kind, int knots) {
        is("kind", x.kind(kind), y.kind(kind));
        for (int k = 0; k <= knots; k++) {
            is("knot", x.knot(k), y.knot(k));
        }
        for (int i = 0; i < 310 && !d.anyWrong(); i++) {
            joinAny();
            if (i % 4 == 0) {
                cutAny();
            }
            if (i % 8 == 0) {
                change();
                ask();
            }
        }
        for (int i = 0; i < 150 && !d.anyWrong(); i++) {
            cutAny();
            ask();
            if (i % 30 == 29) {
                undoSome();
            }
        }
        compareAll();
        return highestLevel();
    }

    /** A row of 100 KNOTS with loops is halved again and again, so that LEVELS rise far. */
    private int halving() {
        is("kind", x.kind(1), y.kind(1));
        for (int k = 0; k < 100; k++) {
            is("knot", x.knot(k), y.knot(k));
        }
        for (int k = 0; k < 99; k++) {
            join(k, k + 1);
        }
        for (int i = 0; i < 100; i++) {
            int a = random.nextInt(97);
            join(a, a + 2 + random.nextInt(2));
        }
        int from = 0;
        for (int length = 100; length > 2 && !d.anyWrong(); length = length / 2) {
            int middle = from + length / 2;
            for (int e = 0; e < 300; e++) {
                boolean across = x.told(e, 0) > 0
                        && (x.told(e, 1) < middle) != (x.told(e, 2) < middle);
                if (across) {
                    is("instead", x.instead(e), y.instead(e));
                    is("cut", x.cut(e), y.cut(e));
                }
            }
        }
        int highest = highestLevel();
        undoSome();
        compareAll();
        return highest;
    }

    private int highestLevel() {
        int highest = 0;
        for (int e = 0; e < x.count(1); e++) {
            highest = Math.max(highest, x.told(e, 3));
        }
        return highest;
    }

    private void undoSome() {
        for (int i = random.nextInt(22); i > 0; i--) {
            is("undo", x.undo(), y.undo());
        }
    }

    private void joinAny() {
        join(random.nextInt(Math.max(1, y.count(0))), random.nextInt(Math.max(1, y.count(0))));
    }

    private void join(int a, int b) {
        long w = random.nextInt(20);
        is("edge(" + a + ", " + b + ", " + w + ")", x.edge(a, b, w), y.edge(a, b, w));
    }

    private void cutAny() {
        int e = random.nextInt(Math.max(1, y.count(1)));
        is("instead(" + e + ")", x.instead(e), y.instead(e));
        is("cut(" + e + ")", x.cut(e), y.cut(e));
        is("count(8)", x.count(8), y.count(8));
    }

    private int any(int many) {
        if (random.nextInt(25) == 0) {
            return WILD[random.nextInt(WILD.length)];
        }
        return random.nextInt(many + (random.nextInt(12) == 0 ? 2 : 0) + (many == 0 ? 1 : 0));
    }

    private long number() {
        int way = random.nextInt(12);
        return way == 0 ? WILD_LONGS[random.nextInt(WILD_LONGS.length)]
                : way == 1 ? random.nextLong() : random.nextInt(15) - 5;
    }

    private int knot() {
        return any(y.count(0));
    }

    private int edge() {
        return any(y.count(1));
    }

    private void change() {
        int a = knot();
        int b = knot();
        int e = edge();
        long v = number();
        String of = "(" + a + ", " + b + ", " + v + ")";
        switch (random.nextInt(30)) {
            case 0:
                is("set" + of, x.set(a, v), y.set(a, v));
                break;
            case 1:
                is("add" + of, x.add(a, b, v), y.add(a, b, v));
                break;
            case 2:
                is("addBelow" + of, x.addBelow(a, v), y.addBelow(a, v));
                break;
            case 3:
            case 4:
                is("root" + of, x.root(a), y.root(a));
                break;
            case 5:
            case 6:
            case 7:
            case 8:
                is("cut(" + e + ")", x.cut(e), y.cut(e));
                break;
            case 9:
            case 10:
            case 11:
                is("undo", x.undo(), y.undo());
                break;
            case 12:
                if (random.nextInt(8) == 0) {
                    undoSome();
                }
                break;
            case 13:
                if (random.nextInt(20) == 0) {
                    is("knot(" + v + ")", x.knot(v), y.knot(v));
                }
                break;
            case 14:
                int k = any(3);
                is("kind(" + k + ")", x.kind(k), y.kind(k));
                break;
            case 15:
            case 16:
            case 17:
                int tray = any(6);
                int what = any(5);
                int at = what == 1 ? e : a;
                is("put" + tray + "," + what + "," + at + "," + b,
                        x.put(tray, what, at, b), y.put(tray, what, at, b));
                is("status", x.status(), y.status());
                break;
            default:
                is("edge" + of, x.edge(a, b, v), y.edge(a, b, v));
                break;
        }
    }

    private void ask() {
        int a = knot();
        int b = knot();
        int e = edge();
        int i = any(10);
        String of = "(" + a + ", " + b + ", " + i + ") e=" + e;
        switch (random.nextInt(17)) {
            case 0:
                is("instead" + of, x.instead(e), y.instead(e));
                break;
            case 1:
                is("told" + of, x.told(e, i), y.told(e, i));
                break;
            case 2:
                is("weight" + of, x.weight(e), y.weight(e));
                break;
            case 3:
                is("count" + of, x.count(i), y.count(i));
                break;
            case 4:
                is("total", x.total(), y.total());
                break;
            case 5:
                is("together" + of, x.together(a, b), y.together(a, b));
                break;
            case 6:
                is("size" + of, x.size(a), y.size(a));
                break;
            case 7:
                is("member" + of, x.member(a, i), y.member(a, i));
                break;
            case 8:
                is("way" + of, x.way(a, b), y.way(a, b));
                break;
            case 9:
                is("between" + of, x.between(a, b, i), y.between(a, b, i));
                break;
            case 10:
                is("heaviest" + of, x.heaviest(a, b), y.heaviest(a, b));
                break;
            case 11:
                is("sum" + of, x.sum(a, b), y.sum(a, b));
                is("least" + of, x.least(a, b), y.least(a, b));
                break;
            case 12:
                is("below" + of, x.below(a, i), y.below(a, i));
                break;
            case 13:
                is("meet" + of, x.meet(a, b), y.meet(a, b));
                break;
            case 14:
                is("sumBelow" + of, x.sumBelow(a), y.sumBelow(a));
                is("value" + of, x.value(a), y.value(a));
                break;
            default:
                int tray = any(6);
                int what = any(9);
                int n = any(12) - (random.nextInt(4) == 0 ? 3 : 0);
                is("forge(" + tray + ", " + what + ", " + n + ")",
                        x.forge(tray, what, n), y.forge(tray, what, n));
                is("status", x.status(), y.status());
                break;
        }
    }

    private void compareAll() {
        for (int what = -1; what <= 9; what++) {
            is("count(" + what + ")", x.count(what), y.count(what));
        }
        is("total", x.total(), y.total());
        for (int e = 0; e < y.count(1); e++) {
            for (int what = 0; what <= 4; what++) {
                is("told(" + e + ", " + what + ")", x.told(e, what), y.told(e, what));
            }
            is("instead(" + e + ")", x.instead(e), y.instead(e));
        }
        for (int k = 0; k < y.count(0); k++) {
            for (int what = 0; what <= 4; what++) {
                is("below(" + k + ", " + what + ")", x.below(k, what), y.below(k, what));
            }
            is("value(" + k + ")", x.value(k), y.value(k));
            is("sumBelow(" + k + ")", x.sumBelow(k), y.sumBelow(k));
            is("size(" + k + ")", x.size(k), y.size(k));
        }
    }

    private void is(String call, long got, long want) {
        calls++;
        d.is("run " + run + ", call " + calls + ": " + call, got, want);
    }
}
