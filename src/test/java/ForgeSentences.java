/** Promise 29: what the host does with a TRAY's THING, and what it refuses. */
final class ForgeSentences {
    // In sample(), TRAY 0 holds nothing, 1 an EDGE, 2 KNOTS, 3 weights, 4 truths, 5 nothing.
    private static final int NOTHING = 0, EDGE = 1, KNOTS = 2, WEIGHTS = 3, TRUTHS = 4;

    static void all(Words w) {
        numbersOutside(w);
        numbersGoAhead(w);
        takenForAnEdge(w);
        takenForKnots(w);
        hundredKnots(w);
        takenForWeights(w);
        hundredTruths(w);
        takenForTruths(w);
        rowIsMade(w);
        copied(w);
        copiedNotThere(w);
        copiedAtTheLimit(w);
        laid(w);
        divided(w);
        thrown(w);
    }

    /** A row 4 - 2 - 0 of weights -100 and 100; 1 and 3 by themselves. */
    private static ForestKeeper sample(Words w) {
        ForestKeeper x = w.keeper(0, 0, 0, 0, 0, 0);
        w.join(x, 4, 2, -100, 2, 0, 100);
        w.is("put", x.put(EDGE, EDGE, 0, 0), 1);
        w.is("put", x.put(KNOTS, KNOTS, 4, 0), 1);
        w.is("put", x.put(WEIGHTS, WEIGHTS, 4, 0), 1);
        w.is("put", x.put(TRUTHS, TRUTHS, 4, 0), 1);
        return x;
    }

    private static void done(Words w, ForestKeeper x, int tray, int what, int n, int want) {
        String call = "forge(" + tray + ", " + what + ", " + n + ")";
        w.is(call, x.forge(tray, what, n), want);
        w.is(call + ", status", x.status(), 0);
    }

    private static void refused(Words w, ForestKeeper x, int tray, int what, int n, int status) {
        String call = "forge(" + tray + ", " + what + ", " + n + ")";
        w.is(call, x.forge(tray, what, n), -1);
        w.is(call + ", status", x.status(), status);
    }

    /** A use that just one THING is for: another one is refused by 11, nothing by 10. */
    private static void onlyFor(Words w, int thing, int what, int n) {
        ForestKeeper x = sample(w);
        for (int tray = 0; tray <= 5; tray++) {
            if (tray != thing) {
                refused(w, x, tray, what, n, tray == 0 || tray == 5 ? 10 : 11);
            }
        }
    }

    private static void numbersOutside(Words w) {
        w.of(29, "What the host does with a TRAY's THING, by what"
                + " (STATUS 1: another; no such TRAY; n outside -100 .. 100):");
        ForestKeeper x = sample(w);
        for (int what : Words.outside(9)) {
            refused(w, x, KNOTS, what, 0, 1);
        }
        for (int what = 0; what <= 8; what++) {
            for (int tray : new int[] {-1, 6, Integer.MIN_VALUE, Integer.MAX_VALUE}) {
                refused(w, x, tray, what, 1, 1);
            }
            for (int n : new int[] {-101, 101, Integer.MIN_VALUE, Integer.MAX_VALUE}) {
                refused(w, x, what % 6, what, n, 1);
            }
        }
        done(w, x, 5, 4, 100, 100);
        done(w, x, 0, 7, -100, -10);
    }

    private static void numbersGoAhead(Words w) {
        w.of(29, "(STATUS 1: another; no such TRAY; n outside -100 .. 100)");
        ForestKeeper x = sample(w);
        refused(w, x, NOTHING, 1, 101, 1);
        refused(w, x, WEIGHTS, 1, -101, 1);
        refused(w, x, KNOTS, 4, -101, 1);
        refused(w, x, 6, 7, 0, 1);
        refused(w, x, NOTHING, 8, 101, 1);
        // Inside, what the host says comes up again.
        refused(w, x, NOTHING, 1, 100, 10);
        refused(w, x, WEIGHTS, 1, -100, 11);
        refused(w, x, KNOTS, 1, -100, 12);
        refused(w, x, KNOTS, 1, 100, 12);
        refused(w, x, KNOTS, 4, -100, 13);
    }

    private static void takenForAnEdge(Words w) {
        w.of(29, "0 it is taken for an EDGE (11), its first KNOT: 10.");
        onlyFor(w, EDGE, 0, 0);
        ForestKeeper x = sample(w);
        for (int n : new int[] {-100, -1, 0, 1, 100}) {
            done(w, x, EDGE, 0, n, 4);
        }
    }

    private static void takenForKnots(Words w) {
        w.of(29, "1 for KNOTS (11), the n-th one: 10, 12.");
        onlyFor(w, KNOTS, 1, 0);
        // What it is goes ahead of where its places are.
        onlyFor(w, KNOTS, 1, -1);
        ForestKeeper x = sample(w);
        done(w, x, KNOTS, 1, 0, 0);
        done(w, x, KNOTS, 1, 1, 2);
        done(w, x, KNOTS, 1, 2, 4);
        for (int n : new int[] {-100, -1, 3, 100}) {
            refused(w, x, KNOTS, 1, n, 12);
        }
    }

    /** The greatest THINGS: all 100 KNOTS in a row, all 99 weights of it. */
    private static ForestKeeper hundred(Words w) {
        ForestKeeper x = w.keeper(0, new long[100]);
        for (int e = 0; e < 99; e++) {
            w.is("edge", x.edge(e, e + 1, 3), e);
        }
        return x;
    }

    private static void hundredKnots(Words w) {
        w.of(29, "the n-th one: 10, 12.");
        ForestKeeper x = hundred(w);
        w.is("put", x.put(0, KNOTS, 50, 0), 1);
        done(w, x, 0, 1, 99, 99);
        refused(w, x, 0, 1, 100, 12);
        done(w, x, 0, 5, 4, 6);
        w.is("put", x.put(0, WEIGHTS, 99, 0), 1);
        done(w, x, 0, 6, 0, 99);
        done(w, x, 0, 2, 3, 99);
    }

    private static void takenForWeights(Words w) {
        w.of(29, "2 for weights (11), how many are n: 10.");
        onlyFor(w, WEIGHTS, 2, 0);
        ForestKeeper x = sample(w);
        done(w, x, WEIGHTS, 2, -100, 1);
        done(w, x, WEIGHTS, 2, 100, 1);
        done(w, x, WEIGHTS, 2, 0, 0);
        done(w, x, WEIGHTS, 2, -99, 0);
        w.is("a way of no edges", x.put(WEIGHTS, WEIGHTS, 1, 1), 1);
        done(w, x, WEIGHTS, 2, 0, 0);
    }

    private static void takenForTruths(Words w) {
        w.of(29, "3 for truths (11), that of KNOT n (1, 0): 10, 12.");
        onlyFor(w, TRUTHS, 3, 0);
        onlyFor(w, TRUTHS, 3, -1);
        ForestKeeper x = sample(w);
        int[] want = {1, 0, 1, 0, 1};
        for (int k = 0; k < want.length; k++) {
            done(w, x, TRUTHS, 3, k, want[k]);
        }
        for (int n : new int[] {-100, -1, 5, 100}) {
            refused(w, x, TRUTHS, 3, n, 12);
        }
    }

    private static void hundredTruths(Words w) {
        w.of(29, "that of KNOT n (1, 0): 10, 12.");
        ForestKeeper x = hundred(w);
        w.is("cut", x.cut(98), -1);
        w.is("put", x.put(0, TRUTHS, 98, 0), 1);
        done(w, x, 0, 3, 98, 1);
        done(w, x, 0, 3, 99, 0);
        refused(w, x, 0, 3, 100, 12);
    }

    private static void rowIsMade(Words w) {
        w.of(29, "4 a row of n longs is made: 13; answers n.");
        ForestKeeper x = sample(w);
        for (int tray = 0; tray <= 5; tray++) {
            done(w, x, tray, 4, 0, 0);
            done(w, x, tray, 4, 1, 1);
            done(w, x, tray, 4, 100, 100);
            refused(w, x, tray, 4, -1, 13);
            refused(w, x, tray, 4, -100, 13);
        }
        done(w, x, KNOTS, 1, 2, 4);
    }

    private static void copied(Words w) {
        w.of(29, "5 n KNOTS of it, from its first one on, taken for KNOTS (11),"
                + " are copied to a new row of 8 from place n on: 10,");
        onlyFor(w, KNOTS, 5, 1);
        onlyFor(w, KNOTS, 5, 0);
        onlyFor(w, KNOTS, 5, -1);
        onlyFor(w, KNOTS, 5, 100);
    }

    private static void copiedNotThere(Words w) {
        w.of(29, "12 (n below 0, or they do not stand there in both);");
        ForestKeeper x = sample(w);
        for (int n : new int[] {-100, -1, 4, 5, 8, 9, 100}) {
            refused(w, x, KNOTS, 5, n, 12);
        }
        w.is("a part of one", x.put(KNOTS, KNOTS, 3, 0), 1);
        done(w, x, KNOTS, 5, 1, 3);
        refused(w, x, KNOTS, 5, 2, 12);
    }

    private static void copiedAtTheLimit(Words w) {
        w.of(29, "answers the sum of the row.");
        ForestKeeper x = sample(w);
        int[] want = {0, 0, 2, 6};
        for (int n = 0; n < want.length; n++) {
            done(w, x, KNOTS, 5, n, want[n]);
        }
        ForestKeeper y = w.keeper(0, new long[11]);
        for (int e = 0; e < 9; e++) {
            w.is("edge", y.edge(e + 1, e + 2, 0), e);
        }
        w.is("a part of ten", y.put(0, KNOTS, 10, 0), 1);
        done(w, y, 0, 5, 3, 6);
        done(w, y, 0, 5, 4, 10);
        // Four end with the row's last place; five, or the eight that a row has, don't fit.
        for (int n = 5; n <= 10; n++) {
            refused(w, y, 0, 5, n, 12);
        }
    }

    private static void laid(Words w) {
        w.of(29, "6 it is laid into a row that takes rows of longs (14: it is another THING):"
                + " answers how many it has (0: nothing).");
        ForestKeeper x = sample(w);
        for (int n : new int[] {-100, 0, 100}) {
            done(w, x, NOTHING, 6, n, 0);
            refused(w, x, EDGE, 6, n, 14);
            refused(w, x, KNOTS, 6, n, 14);
            done(w, x, WEIGHTS, 6, n, 2);
            refused(w, x, TRUTHS, 6, n, 14);
        }
        w.is("a way of no edges", x.put(WEIGHTS, WEIGHTS, 1, 1), 1);
        done(w, x, WEIGHTS, 6, 0, 0);
    }

    private static void divided(Words w) {
        w.of(29, "7 1000 is divided by n: 15; answers it.");
        ForestKeeper x = sample(w);
        for (int tray = 0; tray <= 5; tray++) {
            refused(w, x, tray, 7, 0, 15);
            done(w, x, tray, 7, 1, 1000);
            done(w, x, tray, 7, -1, -1000);
            done(w, x, tray, 7, 3, 333);
            done(w, x, tray, 7, -3, -333);
            done(w, x, tray, 7, 100, 10);
            done(w, x, tray, 7, -100, -10);
            done(w, x, tray, 7, -99, -10);
        }
    }

    private static void thrown(Words w) {
        w.of(29, "8 a failure is thrown that is none: 10.");
        ForestKeeper x = sample(w);
        for (int tray = 0; tray <= 5; tray++) {
            for (int n : new int[] {-100, 0, 100}) {
                refused(w, x, tray, 8, n, 10);
            }
        }
    }
}
