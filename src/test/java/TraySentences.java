/** The Terms' part 5 and promises 28 and 30: TRAYS, what is put in them, and STATUS. */
final class TraySentences {
    private static final int NOTHING = 0, EDGE = 1, KNOTS = 2, WEIGHTS = 3, TRUTHS = 4;
    private static final int MIN = Integer.MIN_VALUE, MAX = Integer.MAX_VALUE;

    static void all(Words w) {
        sixTrays(w);
        edgeAsItWas(w);
        knotsByNumber(w);
        weightsAreLongs(w);
        weightsFromTheFirstOn(w);
        truthsForEachKnot(w);
        hostRefuses(w);
        putEachThing(w);
        putNothing(w);
        putAnEdge(w);
        putKnots(w);
        putWeights(w);
        putTruths(w);
        putRefused(w);
        refusedPutLeavesTheTray(w);
        statusOfTheLatest(w);
        statusItself(w);
    }

    /** A row 3 - 0 - 1 by edges 0 and 1 of weight 7; 2 by itself. */
    private static ForestKeeper row(Words w) {
        ForestKeeper x = w.keeper(1, 0, 0, 0, 0);
        w.join(x, 3, 0, 7, 0, 1, 7);
        return x;
    }

    private static void done(Words w, ForestKeeper x, String call, int got, int want) {
        w.is(call, got, want);
        w.is(call + ", status", x.status(), 0);
    }

    private static void refused(Words w, ForestKeeper x, String call, int got, int status) {
        w.is(call, got, -1);
        w.is(call + ", status", x.status(), status);
    }

    private static void sixTrays(Words w) {
        w.of(0, "TRAYS 0 .. 5 hold a THING: nothing (at first),");
        ForestKeeper x = row(w);
        for (int tray = 0; tray <= 5; tray++) {
            refused(w, x, "nothing at first", x.forge(tray, 1, 0), 10);
            done(w, x, "nothing at first", x.forge(tray, 6, 0), 0);
        }
        for (int tray = 0; tray <= 5; tray++) {
            done(w, x, "put", x.put(tray, KNOTS, tray % 4, 0), 1);
        }
        int[] first = {0, 0, 2, 0, 0, 0};
        for (int tray = 0; tray <= 5; tray++) {
            done(w, x, "each its own", x.forge(tray, 1, 0), first[tray]);
        }
        for (int tray : Words.outside(6)) {
            refused(w, x, "put in " + tray, x.put(tray, NOTHING, 0, 0), 1);
            refused(w, x, "forge of " + tray, x.forge(tray, 4, 0), 1);
        }
    }

    private static void edgeAsItWas(Words w) {
        w.of(0, "an EDGE (as it was when it was put there),");
        ForestKeeper x = row(w);
        done(w, x, "put", x.put(0, EDGE, 1, 0), 1);
        w.is("undo the edge", x.undo(), 1);
        done(w, x, "it is no more, but there", x.forge(0, 0, 0), 0);
        w.is("its number again", x.edge(2, 1, 0), 1);
        done(w, x, "as it was", x.forge(0, 0, 0), 0);
        done(w, x, "put anew", x.put(0, EDGE, 1, 0), 1);
        done(w, x, "as it is", x.forge(0, 0, 0), 2);
        w.is("cut", x.cut(1), -1);
        done(w, x, "it is gone, but there", x.forge(0, 0, 0), 2);
    }

    private static void knotsByNumber(Words w) {
        w.of(0, "the KNOTS of a PART (ints, by number),");
        ForestKeeper x = row(w);
        done(w, x, "put", x.put(0, KNOTS, 3, 0), 1);
        w.is("cut", x.cut(0), -1);
        int[] want = {0, 1, 3};
        for (int i = 0; i < want.length; i++) {
            done(w, x, "place " + i, x.forge(0, 1, i), want[i]);
        }
        refused(w, x, "no more", x.forge(0, 1, 3), 12);
    }

    private static void weightsAreLongs(Words w) {
        w.of(0, "the weights of a WAY's TREE edges (longs,");
        ForestKeeper x = w.keeper(1, 0, 0, 0, 0);
        w.is("edge", x.edge(0, 1, 5), 0);
        w.is("edge", x.edge(1, 2, (1L << 32) + 5), 1);
        w.is("edge", x.edge(2, 3, Long.MIN_VALUE), 2);
        w.is("a spare edge", x.edge(0, 3, 5), 3);
        done(w, x, "put", x.put(0, WEIGHTS, 0, 3), 1);
        done(w, x, "how many", x.forge(0, 6, 0), 3);
        done(w, x, "a long is not what its lower half is", x.forge(0, 2, 5), 1);
        done(w, x, "a long is not what its lower half is", x.forge(0, 2, 0), 0);
        w.is("cut", x.cut(0), 3);
        done(w, x, "as they were", x.forge(0, 2, 5), 1);
    }

    /** In which order they lie is not seen; that they are of this WAY alone is. */
    private static void weightsFromTheFirstOn(Words w) {
        w.of(0, "from the first KNOT on),");
        ForestKeeper x = w.keeper(0, 0, 0, 0, 0);
        w.join(x, 0, 1, 1, 1, 2, 2, 2, 3, 3);
        done(w, x, "put", x.put(0, WEIGHTS, 1, 3), 1);
        done(w, x, "put, turned", x.put(1, WEIGHTS, 3, 1), 1);
        int[] want = {0, 0, 1, 1};
        for (int n = 0; n < want.length; n++) {
            done(w, x, "how many are " + n, x.forge(0, 2, n), want[n]);
            done(w, x, "turned: how many are " + n, x.forge(1, 2, n), want[n]);
        }
    }

    private static void truthsForEachKnot(Words w) {
        w.of(0, "for each KNOT whether it is in a PART (truths).");
        ForestKeeper x = row(w);
        done(w, x, "put", x.put(0, TRUTHS, 1, 0), 1);
        w.is("cut", x.cut(1), -1);
        w.is("knot", x.knot(0), 4);
        int[] want = {1, 1, 0, 1};
        for (int k = 0; k < want.length; k++) {
            done(w, x, "knot " + k, x.forge(0, 3, k), want[k]);
        }
        refused(w, x, "a knot that came later", x.forge(0, 3, 4), 12);
    }

    private static void hostRefuses(Words w) {
        w.of(0, "The host refuses: STATUS 10 nothing where something is asked, 11 a THING of another kind,"
                + " 12 a place outside, 13 a size below 0, 14 a THING that does not fit, 15 divided by 0;"
                + " a call answers -1 then.");
        ForestKeeper x = row(w);
        done(w, x, "put", x.put(1, KNOTS, 0, 0), 1);
        refused(w, x, "nothing", x.forge(0, 1, 0), 10);
        refused(w, x, "another kind", x.forge(1, 2, 0), 11);
        refused(w, x, "a place outside", x.forge(1, 1, -1), 12);
        refused(w, x, "a size below 0", x.forge(1, 4, -1), 13);
        refused(w, x, "it does not fit", x.forge(1, 6, 0), 14);
        refused(w, x, "divided by 0", x.forge(1, 7, 0), 15);
    }

    private static void putEachThing(Words w) {
        w.of(28, "A TRAY holds: what");
        ForestKeeper x = row(w);
        // Which use a THING is for: an EDGE 0, KNOTS 1, weights 2, truths 3.
        for (int what = EDGE; what <= TRUTHS; what++) {
            done(w, x, "put " + what, x.put(5, what, 0, 0), 1);
            for (int use = 0; use <= 3; use++) {
                boolean fits = use == what - 1;
                int got = x.forge(5, use, 0);
                w.is("use " + use + " of " + what, x.status(), fits ? 0 : 11);
                w.is("use " + use + " of " + what + " is refused", got == -1 ? 1 : 0, fits ? 0 : 1);
            }
        }
    }

    private static void putNothing(Words w) {
        w.of(28, "0 nothing,");
        ForestKeeper x = row(w);
        done(w, x, "put", x.put(2, KNOTS, 0, 0), 1);
        done(w, x, "nothing, whatever the numbers", x.put(2, NOTHING, MIN, MAX), 1);
        refused(w, x, "nothing", x.forge(2, 1, 0), 10);
        done(w, x, "nothing again", x.put(2, NOTHING, -1, -1), 1);
        ForestKeeper y = new ForestKeeper();
        done(w, y, "of a new object", y.put(0, NOTHING, 0, 0), 1);
    }

    private static void putAnEdge(Words w) {
        w.of(28, "1 the EDGE a (not GONE),");
        ForestKeeper x = row(w);
        w.is("a spare edge", x.edge(1, 3, 0), 2);
        for (int e = 0; e <= 2; e++) {
            done(w, x, "put " + e, x.put(0, EDGE, e, MIN), 1);
            done(w, x, "its first knot", x.forge(0, 0, 0), x.told(e, 1));
        }
        w.is("cut", x.cut(2), -1);
        refused(w, x, "gone", x.put(0, EDGE, 2, 0), 1);
        for (int e : Words.outside(3)) {
            refused(w, x, "no such: " + e, x.put(0, EDGE, e, 0), 1);
        }
        w.is("undo the cut", x.undo(), 1);
        done(w, x, "there again", x.put(0, EDGE, 2, 0), 1);
        w.is("undo the edge", x.undo(), 1);
        refused(w, x, "undone", x.put(0, EDGE, 2, 0), 1);
    }

    private static void putKnots(Words w) {
        w.of(28, "2 the KNOTS of the PART of a,");
        ForestKeeper x = row(w);
        done(w, x, "of one", x.put(0, KNOTS, 2, MIN), 1);
        done(w, x, "itself", x.forge(0, 1, 0), 2);
        refused(w, x, "no other", x.forge(0, 1, 1), 12);
        for (int k : Words.outside(4)) {
            refused(w, x, "no such: " + k, x.put(0, KNOTS, k, 0), 1);
        }
    }

    private static void putWeights(Words w) {
        w.of(28, "3 the weights on the WAY from a to b (TOGETHER),");
        ForestKeeper x = row(w);
        done(w, x, "of two", x.put(0, WEIGHTS, 3, 1), 1);
        done(w, x, "how many", x.forge(0, 6, 0), 2);
        done(w, x, "to itself", x.put(0, WEIGHTS, 2, 2), 1);
        done(w, x, "none, but something", x.forge(0, 6, 0), 0);
        done(w, x, "none, but weights", x.forge(0, 2, 0), 0);
        refused(w, x, "apart", x.put(0, WEIGHTS, 2, 0), 1);
        refused(w, x, "apart, turned", x.put(0, WEIGHTS, 0, 2), 1);
        for (int k : Words.outside(4)) {
            refused(w, x, "from " + k, x.put(0, WEIGHTS, k, 0), 1);
            refused(w, x, "to " + k, x.put(0, WEIGHTS, 0, k), 1);
            refused(w, x, k + " to itself", x.put(0, WEIGHTS, k, k), 1);
        }
    }

    private static void putTruths(Words w) {
        w.of(28, "4 truths of the PART of a.");
        ForestKeeper x = row(w);
        done(w, x, "of one", x.put(0, TRUTHS, 2, MAX), 1);
        int[] want = {0, 0, 1, 0};
        for (int k = 0; k < want.length; k++) {
            done(w, x, "knot " + k, x.forge(0, 3, k), want[k]);
        }
        for (int k : Words.outside(4)) {
            refused(w, x, "no such: " + k, x.put(0, TRUTHS, k, 0), 1);
        }
    }

    private static void putRefused(Words w) {
        w.of(28, "Answers 1. STATUS 1.");
        ForestKeeper x = row(w);
        for (int what = NOTHING; what <= TRUTHS; what++) {
            done(w, x, "what " + what, x.put(0, what, 0, 0), 1);
            for (int tray : Words.outside(6)) {
                refused(w, x, "tray " + tray, x.put(tray, what, 0, 0), 1);
            }
        }
        for (int what : Words.outside(5)) {
            refused(w, x, "what " + what, x.put(0, what, 0, 0), 1);
        }
        ForestKeeper y = new ForestKeeper();
        for (int what = EDGE; what <= TRUTHS; what++) {
            refused(w, y, "a new object has none, what " + what, y.put(0, what, 0, 0), 1);
        }
    }

    private static void refusedPutLeavesTheTray(Words w) {
        w.of(28, "STATUS 1.");
        ForestKeeper x = row(w);
        done(w, x, "put", x.put(0, KNOTS, 0, 0), 1);
        for (int what = -1; what <= 5; what++) {
            if (what != NOTHING) {
                refused(w, x, "put " + what, x.put(0, what, 99, 99), 1);
            }
        }
        refused(w, x, "apart", x.put(0, WEIGHTS, 0, 2), 1);
        done(w, x, "it holds what it held", x.forge(0, 1, 2), 3);
    }

    private static void statusOfTheLatest(Words w) {
        w.of(0, "STATUS is of the latest put(), forge(): 0 done, 1 a number is none such (-1, too).");
        ForestKeeper x = row(w);
        refused(w, x, "forge refused", x.forge(0, 7, 0), 15);
        done(w, x, "forge done", x.forge(0, 7, 1), 1000);
        refused(w, x, "forge of none such", x.forge(6, 7, 1), 1);
        done(w, x, "put done", x.put(0, NOTHING, 0, 0), 1);
        refused(w, x, "put of none such", x.put(0, 5, 0, 0), 1);
        done(w, x, "put done", x.put(0, KNOTS, 2, 0), 1);
        refused(w, x, "forge refused", x.forge(0, 4, -1), 13);
        w.is("knot", x.knot(0), 4);
        w.is("edge", x.edge(2, 4, 0), 2);
        w.is("cut", x.cut(99), ForestKeeper.BAD);
        w.is("undo", x.undo(), 1);
        w.is("value", x.value(-1), ForestKeeper.NO);
        w.is("other calls leave it", x.status(), 13);
    }

    private static void statusItself(Words w) {
        w.of(30, "STATUS.");
        ForestKeeper x = new ForestKeeper();
        w.is("at first", x.status(), 0);
        w.is("forge", x.forge(0, 8, 0), -1);
        w.is("then", x.status(), 10);
        w.is("asked again", x.status(), 10);
        w.is("another object's", new ForestKeeper().status(), 0);
    }
}
