/** Promises 22 to 26: ROOTS, what is BELOW, and where KNOTS MEET. */
final class RootSentences {
    private static final int NONE = ForestKeeper.NONE, BAD = ForestKeeper.BAD;
    private static final long NO = ForestKeeper.NO;
    private static final long MIN = Long.MIN_VALUE, MAX = Long.MAX_VALUE;

    static void all(Words w) {
        naming(w);
        namingNone(w);
        rootsAndParents(w);
        depthsAndThoseBelow(w);
        whetherACutKnot(w);
        belowOfNone(w);
        meeting(w);
        notMeeting(w);
        meetingOfNone(w);
        sumsBelow(w);
        noSumBelow(w);
        addingBelow(w);
        addingBelowNone(w);
    }

    /** 0 - 1 - 2 with 3 at 1; 4 by itself. */
    private static ForestKeeper branch(Words w) {
        ForestKeeper x = w.keeper(1, 1, 20, 300, 4000, 50000);
        w.join(x, 0, 1, 0, 2, 1, 0, 1, 3, 0);
        return x;
    }

    private static void naming(Words w) {
        w.of(22, "A KNOT is named: it is the ROOT of its PART: the ROOT that was.");
        ForestKeeper x = branch(w);
        w.is("one alone: itself was", x.root(4), 4);
        w.is("none was named: the lowest number", x.root(3), 0);
        w.is("it is the root", x.below(0, 0), 3);
        w.is("named again: itself was", x.root(3), 3);
        w.is("another one", x.root(2), 3);
        w.is("one named before", x.root(3), 2);
        w.is("it is the root", x.below(1, 0), 3);
        w.is("of its part alone", x.below(4, 0), 4);
    }

    private static void namingNone(Words w) {
        w.of(22, "BAD.");
        ForestKeeper x = branch(w);
        for (int k : Words.outside(5)) {
            w.is("root(" + k + ")", x.root(k), BAD);
        }
        w.is("the root is as it was", x.below(3, 0), 0);
        w.is("changes", x.count(7), 3);
    }

    private static void belowAre(Words w, ForestKeeper x, int what, int... want) {
        for (int k = 0; k < want.length; k++) {
            w.is("below(" + k + ", " + what + ")", x.below(k, what), want[k]);
        }
    }

    private static void rootsAndParents(Words w) {
        w.of(23, "Of a KNOT: 0 its PART's ROOT, 1 its PARENT (NONE),");
        ForestKeeper x = branch(w);
        belowAre(w, x, 0, 0, 0, 0, 0, 4);
        belowAre(w, x, 1, NONE, 0, 1, 1, NONE);
        w.is("root", x.root(3), 0);
        belowAre(w, x, 0, 3, 3, 3, 3, 4);
        belowAre(w, x, 1, 1, 3, 1, NONE, NONE);
    }

    private static void depthsAndThoseBelow(Words w) {
        w.of(23, "2 its DEPTH, 3 how many KNOTS are BELOW,");
        ForestKeeper x = branch(w);
        belowAre(w, x, 2, 0, 1, 2, 2, 0);
        belowAre(w, x, 3, 4, 3, 1, 1, 1);
        w.is("root", x.root(3), 0);
        belowAre(w, x, 2, 2, 1, 2, 0, 0);
        belowAre(w, x, 3, 1, 3, 1, 4, 1);
    }

    private static void whetherACutKnot(Words w) {
        w.of(23, "4 whether it is a CUT KNOT (1, 0).");
        ForestKeeper x = branch(w);
        belowAre(w, x, 4, 0, 1, 0, 0, 0);
        w.is("edge", x.edge(0, 2, 0), 3);
        belowAre(w, x, 4, 0, 1, 0, 0, 0);
        w.is("edge", x.edge(3, 2, 0), 4);
        belowAre(w, x, 4, 0, 0, 0, 0, 0);
        w.is("edge", x.edge(4, 0, 0), 5);
        belowAre(w, x, 4, 1, 0, 0, 0, 0);
    }

    private static void belowOfNone(Words w) {
        w.of(23, "BAD.");
        ForestKeeper x = branch(w);
        for (int what = -1; what <= 5; what++) {
            for (int k : Words.outside(5)) {
                w.is("below(" + k + ", " + what + ")", x.below(k, what), BAD);
            }
        }
        for (int what : Words.outside(5)) {
            w.is("below(0, " + what + ")", x.below(0, what), BAD);
        }
    }

    private static void meeting(Words w) {
        w.of(24, "Where two KNOTS MEET;");
        ForestKeeper x = branch(w);
        w.is("itself", x.meet(3, 3), 3);
        w.is("alone", x.meet(4, 4), 4);
        w.is("with the parent", x.meet(3, 1), 1);
        w.is("with one below", x.meet(1, 2), 1);
        w.is("beside each other", x.meet(2, 3), 1);
        w.is("with the root", x.meet(2, 0), 0);
        w.is("root", x.root(2), 0);
        w.is("with the new root", x.meet(0, 2), 2);
        w.is("at the same place", x.meet(0, 3), 1);
    }

    private static void notMeeting(Words w) {
        w.of(24, "NONE: they are not TOGETHER.");
        ForestKeeper x = branch(w);
        w.is("apart", x.meet(0, 4), NONE);
        w.is("apart, turned", x.meet(4, 0), NONE);
        w.is("cut", x.cut(1), NONE);
        w.is("two parts", x.meet(2, 3), NONE);
    }

    private static void meetingOfNone(Words w) {
        w.of(24, "BAD.");
        ForestKeeper x = branch(w);
        for (int k : Words.outside(5)) {
            w.is("from " + k, x.meet(k, 0), BAD);
            w.is("to " + k, x.meet(0, k), BAD);
            w.is(k + " with itself", x.meet(k, k), BAD);
        }
    }

    private static void sumsBelow(Words w) {
        w.of(25, "The sum of the values BELOW a KNOT.");
        ForestKeeper x = branch(w);
        long[] want = {4321, 4320, 300, 4000, 50000};
        for (int k = 0; k < want.length; k++) {
            w.is("sumBelow(" + k + ")", x.sumBelow(k), want[k]);
        }
        w.is("set", x.set(2, MAX), 1);
        w.is("wraps above", x.sumBelow(1), MIN + 4019);
        w.is("set", x.set(2, MIN), 1);
        w.is("set", x.set(3, -21), 1);
        w.is("wraps below", x.sumBelow(1), MAX);
    }

    private static void noSumBelow(Words w) {
        w.of(25, "NO: no such.");
        ForestKeeper x = branch(w);
        for (int k : Words.outside(5)) {
            w.is("sumBelow(" + k + ")", x.sumBelow(k), NO);
        }
    }

    private static void addingBelow(Words w) {
        w.of(26, "Each value BELOW a KNOT gets v more: how many.");
        ForestKeeper x = branch(w);
        w.is("alone", x.addBelow(4, 1), 1);
        w.values(x, 1, 20, 300, 4000, 50001);
        w.is("at the end", x.addBelow(2, -1), 1);
        w.values(x, 1, 20, 299, 4000, 50001);
        w.is("in the midst", x.addBelow(1, MAX), 3);
        w.values(x, 1, MIN + 19, MIN + 298, MIN + 3999, 50001);
        w.is("the root", x.addBelow(0, MIN), 4);
        w.values(x, MIN + 1, 19, 298, 3999, 50001);
    }

    private static void addingBelowNone(Words w) {
        w.of(26, "BAD.");
        ForestKeeper x = branch(w);
        for (int k : Words.outside(5)) {
            w.is("addBelow(" + k + ", 1)", x.addBelow(k, 1), BAD);
        }
        w.values(x, 1, 20, 300, 4000, 50000);
        w.is("changes", x.count(7), 3);
    }
}
