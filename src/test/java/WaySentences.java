/** Promises 11 to 21: who is TOGETHER, WAYS, and values along them. */
final class WaySentences {
    private static final int NONE = ForestKeeper.NONE, BAD = ForestKeeper.BAD;
    private static final int STATE = ForestKeeper.STATE;
    private static final long NO = ForestKeeper.NO;
    private static final long MIN = Long.MIN_VALUE, MAX = Long.MAX_VALUE;

    static void all(Words w) {
        together(w);
        togetherOfNone(w);
        sizes(w);
        sizeOfNone(w);
        members(w);
        noSuchMember(w);
        memberOfNone(w);
        ways(w);
        noWay(w);
        wayOfNone(w);
        between(w);
        noneBetween(w);
        betweenOfNone(w);
        heaviest(w);
        noHeaviest(w);
        heaviestOfNone(w);
        sums(w);
        noSum(w);
        leasts(w);
        noLeast(w);
        adding(w);
        addingToNone(w);
        addingToThoseApart(w);
        values(w);
        noValue(w);
        setting(w);
        settingNone(w);
    }

    /** A row 3 - 1 - 0 - 4 by edges 0, 1, 2 of weights 5, 9, 9; 2 by itself. */
    private static ForestKeeper row(Words w) {
        ForestKeeper x = w.keeper(1, 10, 200, 3000, -4, 50);
        w.join(x, 3, 1, 5, 0, 1, 9, 4, 0, 9);
        return x;
    }

    private static void together(Words w) {
        w.of(11, "Whether two KNOTS are TOGETHER: 1, 0.");
        ForestKeeper x = row(w);
        w.is("beside each other", x.together(0, 1), 1);
        w.is("far ends", x.together(3, 4), 1);
        w.is("far ends, turned", x.together(4, 3), 1);
        w.is("itself", x.together(2, 2), 1);
        w.is("apart", x.together(2, 0), 0);
        w.is("apart, turned", x.together(0, 2), 0);
    }

    private static void togetherOfNone(Words w) {
        w.of(11, "BAD.");
        ForestKeeper x = row(w);
        for (int k : Words.outside(5)) {
            w.is("from " + k, x.together(k, 0), BAD);
            w.is("to " + k, x.together(0, k), BAD);
            w.is(k + " with itself", x.together(k, k), BAD);
        }
    }

    private static void sizes(Words w) {
        w.of(12, "How many KNOTS the PART of a KNOT has.");
        ForestKeeper x = row(w);
        w.is("one", x.size(2), 1);
        w.is("four", x.size(4), 4);
        w.is("cut", x.cut(1), NONE);
        w.is("two", x.size(1), 2);
        w.is("two", x.size(0), 2);
    }

    private static void sizeOfNone(Words w) {
        w.of(12, "BAD.");
        ForestKeeper x = row(w);
        for (int k : Words.outside(5)) {
            w.is("size(" + k + ")", x.size(k), BAD);
        }
    }

    private static void members(Words w) {
        w.of(13, "The i-th KNOT, by numbers, of a KNOT's PART;");
        ForestKeeper x = row(w);
        int[] want = {0, 1, 3, 4};
        for (int i = 0; i < want.length; i++) {
            w.is("member(4, " + i + ")", x.member(4, i), want[i]);
            w.is("member(0, " + i + ")", x.member(0, i), want[i]);
        }
        w.is("the only one", x.member(2, 0), 2);
    }

    private static void noSuchMember(Words w) {
        w.of(13, "NONE: no such.");
        ForestKeeper x = row(w);
        for (int i : Words.outside(4)) {
            w.is("member(4, " + i + ")", x.member(4, i), NONE);
        }
        for (int i : Words.outside(1)) {
            w.is("member(2, " + i + ")", x.member(2, i), NONE);
        }
    }

    private static void memberOfNone(Words w) {
        w.of(13, "BAD: no such KNOT.");
        ForestKeeper x = row(w);
        for (int k : Words.outside(5)) {
            w.is("member(" + k + ", 0)", x.member(k, 0), BAD);
            w.is("no such of none such", x.member(k, -1), BAD);
        }
    }

    private static void ways(Words w) {
        w.of(14, "How many TREE edges the WAY from a to b has;");
        ForestKeeper x = row(w);
        w.is("to itself", x.way(0, 0), 0);
        w.is("alone to itself", x.way(2, 2), 0);
        w.is("to the next", x.way(0, 4), 1);
        w.is("to the end", x.way(3, 4), 3);
        w.is("from the end", x.way(4, 3), 3);
        w.is("a spare edge", x.edge(3, 4, 0), 3);
        w.is("is on no way", x.way(3, 4), 3);
    }

    private static void noWay(Words w) {
        w.of(14, "NONE: they are not TOGETHER.");
        ForestKeeper x = row(w);
        w.is("to one alone", x.way(0, 2), NONE);
        w.is("from one alone", x.way(2, 0), NONE);
        w.is("cut", x.cut(1), NONE);
        w.is("between two parts", x.way(3, 4), NONE);
    }

    private static void wayOfNone(Words w) {
        w.of(14, "BAD.");
        ForestKeeper x = row(w);
        for (int k : Words.outside(5)) {
            w.is("from " + k, x.way(k, 0), BAD);
            w.is("to " + k, x.way(0, k), BAD);
            w.is(k + " to itself", x.way(k, k), BAD);
        }
    }

    private static void between(Words w) {
        w.of(15, "On the WAY from a to b: the i-th KNOT (0: a);");
        ForestKeeper x = row(w);
        int[] want = {3, 1, 0, 4};
        for (int i = 0; i < want.length; i++) {
            w.is("there " + i, x.between(3, 4, i), want[i]);
            w.is("back " + i, x.between(4, 3, 3 - i), want[i]);
        }
        w.is("itself", x.between(1, 1, 0), 1);
        w.is("alone", x.between(2, 2, 0), 2);
    }

    private static void noneBetween(Words w) {
        w.of(15, "NONE: no such.");
        ForestKeeper x = row(w);
        for (int i : Words.outside(4)) {
            w.is("place " + i, x.between(3, 4, i), NONE);
        }
        for (int i : Words.outside(1)) {
            w.is("to itself, place " + i, x.between(2, 2, i), NONE);
        }
        for (int i : Words.outside(0)) {
            w.is("apart, place " + i, x.between(0, 2, i), NONE);
        }
    }

    private static void betweenOfNone(Words w) {
        w.of(15, "BAD: no such KNOTS.");
        ForestKeeper x = row(w);
        for (int k : Words.outside(5)) {
            w.is("from " + k, x.between(k, 0, 0), BAD);
            w.is("to " + k, x.between(0, k, 0), BAD);
            w.is("no such place either", x.between(0, k, -1), BAD);
        }
    }

    private static void heaviest(Words w) {
        w.of(16, "The HEAVIEST EDGE of the WAY from a to b;");
        ForestKeeper x = row(w);
        w.is("of one", x.heaviest(1, 3), 0);
        w.is("of two", x.heaviest(3, 0), 1);
        w.is("of equal ones the higher number", x.heaviest(3, 4), 2);
        w.is("turned", x.heaviest(4, 3), 2);
        w.is("a spare edge", x.edge(3, 4, 100), 3);
        w.is("is on no way", x.heaviest(3, 4), 2);
    }

    private static void noHeaviest(Words w) {
        w.of(16, "NONE: they are one, or not TOGETHER.");
        ForestKeeper x = row(w);
        w.is("one", x.heaviest(0, 0), NONE);
        w.is("one alone", x.heaviest(2, 2), NONE);
        w.is("apart", x.heaviest(0, 2), NONE);
        w.is("apart, turned", x.heaviest(2, 0), NONE);
    }

    private static void heaviestOfNone(Words w) {
        w.of(16, "BAD.");
        ForestKeeper x = row(w);
        for (int k : Words.outside(5)) {
            w.is("from " + k, x.heaviest(k, 0), BAD);
            w.is("to " + k, x.heaviest(0, k), BAD);
            w.is("they are one, and none such", x.heaviest(k, k), BAD);
        }
    }

    private static void sums(Words w) {
        w.of(17, "The sum of the values of all KNOTS of a WAY.");
        ForestKeeper x = row(w);
        w.is("of one", x.sum(2, 2), 3000);
        w.is("of two", x.sum(0, 1), 210);
        w.is("of all", x.sum(3, 4), 256);
        w.is("turned", x.sum(4, 3), 256);
        w.is("set", x.set(1, MIN), 1);
        w.is("wraps below", x.sum(1, 3), MAX - 3);
        w.is("set", x.set(1, MAX), 1);
        w.is("wraps above", x.sum(1, 0), MIN + 9);
    }

    private static void noSum(Words w) {
        w.of(17, "NO: no such KNOTS, or they are not TOGETHER.");
        ForestKeeper x = row(w);
        for (int k : Words.outside(5)) {
            w.is("from " + k, x.sum(k, 0), NO);
            w.is("to " + k, x.sum(0, k), NO);
            w.is(k + " with itself", x.sum(k, k), NO);
        }
        w.is("apart", x.sum(2, 0), NO);
        w.is("apart, turned", x.sum(0, 2), NO);
    }

    private static void leasts(Words w) {
        w.of(18, "The least value of a WAY's KNOTS.");
        ForestKeeper x = row(w);
        w.is("of one", x.least(2, 2), 3000);
        w.is("at the first", x.least(3, 4), -4);
        w.is("at the second", x.least(4, 3), -4);
        w.is("in the midst", x.least(1, 4), 10);
        w.is("set", x.set(3, MIN), 1);
        w.is("set", x.set(1, MAX), 1);
        w.is("the ends of long", x.least(1, 3), MIN);
        w.is("the greatest alone", x.least(1, 1), MAX);
    }

    private static void noLeast(Words w) {
        w.of(18, "NO as sum().");
        ForestKeeper x = row(w);
        for (int k : Words.outside(5)) {
            w.is("from " + k, x.least(k, 0), NO);
            w.is("to " + k, x.least(0, k), NO);
            w.is(k + " with itself", x.least(k, k), NO);
        }
        w.is("apart", x.least(2, 0), NO);
        w.is("apart, turned", x.least(0, 2), NO);
    }

    private static void adding(Words w) {
        w.of(19, "Each KNOT's value of a WAY gets v more: how many KNOTS.");
        ForestKeeper x = row(w);
        w.is("of one", x.add(2, 2, 1), 1);
        w.values(x, 10, 200, 3001, -4, 50);
        w.is("of two", x.add(0, 4, -1), 2);
        w.values(x, 9, 200, 3001, -4, 49);
        w.is("of all", x.add(3, 4, MAX), 4);
        w.values(x, MIN + 8, MIN + 199, 3001, MAX - 4, MIN + 48);
        w.is("the least long", x.add(3, 4, MIN), 4);
        w.values(x, 8, 199, 3001, -5, 48);
    }

    private static void addingToNone(Words w) {
        w.of(19, "BAD;");
        ForestKeeper x = row(w);
        for (int k : Words.outside(5)) {
            w.is("from " + k, x.add(k, 0, 1), BAD);
            w.is("to " + k, x.add(0, k, 1), BAD);
            w.is(k + " with itself", x.add(k, k, 1), BAD);
        }
        w.values(x, 10, 200, 3000, -4, 50);
    }

    private static void addingToThoseApart(Words w) {
        w.of(19, "STATE: they are not TOGETHER.");
        ForestKeeper x = row(w);
        w.is("apart", x.add(2, 0, 1), STATE);
        w.is("apart, turned", x.add(0, 2, 1), STATE);
        w.is("cut", x.cut(1), NONE);
        w.is("two parts", x.add(3, 4, 1), STATE);
        w.values(x, 10, 200, 3000, -4, 50);
        w.is("changes", x.count(7), 4);
    }

    private static void values(Words w) {
        w.of(20, "A KNOT's value.");
        ForestKeeper x = w.keeper(0, MIN, 0, MAX);
        w.values(x, MIN, 0, MAX);
    }

    private static void noValue(Words w) {
        w.of(20, "NO: no such.");
        ForestKeeper x = row(w);
        for (int k : Words.outside(5)) {
            w.is("value(" + k + ")", x.value(k), NO);
        }
    }

    private static void setting(Words w) {
        w.of(21, "A KNOT's value becomes v: 1.");
        ForestKeeper x = row(w);
        long[] values = {MIN, MAX, 0, NO, NO};
        for (long v : values) {
            w.is("set(0, " + v + ")", x.set(0, v), 1);
            w.is("value", x.value(0), v);
        }
        w.is("the last knot", x.set(4, 1), 1);
        w.values(x, NO, 200, 3000, -4, 1);
    }

    private static void settingNone(Words w) {
        w.of(21, "BAD.");
        ForestKeeper x = row(w);
        for (int k : Words.outside(5)) {
            w.is("set(" + k + ", 1)", x.set(k, 1), BAD);
        }
        w.values(x, 10, 200, 3000, -4, 50);
    }
}
