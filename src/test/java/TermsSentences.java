/** The Terms ahead of part 1: the limits, what KNOTS and EDGES have, and the refusals. */
final class TermsSentences {
    private static final int NONE = ForestKeeper.NONE, BAD = ForestKeeper.BAD;
    private static final int STATE = ForestKeeper.STATE, FULL = ForestKeeper.FULL;
    private static final long NO = ForestKeeper.NO;
    private static final long MIN = Long.MIN_VALUE, MAX = Long.MAX_VALUE;

    static void all(Words w) {
        knotsAtMost(w);
        edgesAtMost(w);
        bothAtMost(w);
        numbersAsTheyCome(w);
        sumsWrap(w);
        unlikeKnots(w);
        weightsAndLevels(w);
        thereTillGone(w);
        none(w);
        no(w);
        badAheadOfState(w);
        badAheadOfFull(w);
        stateIsMinusThree(w);
        fullIsMinusFour(w);
        refusalsChangeNothing(w);
        fullChangesNothing(w);
    }

    private static void knotsAtMost(Words w) {
        w.of(0, "KNOTS (100 at most)");
        ForestKeeper x = new ForestKeeper();
        for (int i = 0; i < 100; i++) {
            w.is("knot " + i, x.knot(i), i);
        }
        w.is("one more", x.knot(7), FULL);
        w.is("how many", x.count(0), 100);
        w.is("the last one's value", x.value(99), 99);
        w.is("no value of one more", x.value(100), NO);
        w.is("an edge at the last one", x.edge(99, 0, 1), 0);
        w.is("no edge at one more", x.edge(100, 0, 1), BAD);
        for (int i = 1; i < 99; i++) {
            w.is("edge", x.edge(i - 1, i, 0), i);
        }
        w.is("all are one part", x.size(99), 100);
        w.is("the longest way", x.way(99, 98), 99);
        w.is("its last knot", x.between(99, 98, 99), 98);
        w.is("no knot behind it", x.between(99, 98, 100), NONE);
        w.is("the last member", x.member(0, 99), 99);
        w.is("no member more", x.member(0, 100), NONE);
        w.is("its values", x.sum(98, 99), 4950);
        w.is("its least value", x.least(98, 99), 0);
        w.is("add to all", x.add(98, 99, 1), 100);
        w.is("name the last one", x.root(99), 0);
        w.is("the deepest one", x.below(98, 2), 99);
        w.is("its meeting with the root", x.meet(98, 99), 99);
        w.is("turned", x.meet(99, 98), 99);
        w.is("below the root", x.below(99, 3), 100);
        w.is("add below the root", x.addBelow(99, 1), 100);
        w.is("the sum below", x.sumBelow(99), 5150);
        w.is("cut knots", x.count(6), 98);
        w.is("bridges", x.count(5), 99);
    }

    private static void edgesAtMost(Words w) {
        w.of(0, "and EDGES (300 at most, in all)");
        ForestKeeper x = w.keeper(1, 0, 0);
        for (int i = 0; i < 300; i++) {
            w.is("edge " + i, x.edge(i % 2, 1 - i % 2, i), i);
        }
        w.is("one more", x.edge(0, 1, 7), FULL);
        w.is("how many", x.count(1), 300);
        w.is("the last one's weight", x.weight(299), 299);
        w.is("no weight of one more", x.weight(300), NO);
        w.is("the last one", x.told(299, 0), 2);
        w.is("none more", x.told(300, 0), BAD);
        w.is("together by the first of all", x.together(0, 1), 1);
        w.is("the first goes", x.cut(0), 1);
        w.is("together by the second", x.together(0, 1), 1);
        w.is("its going is undone", x.undo(), 1);
        w.is("one goes", x.cut(150), NONE);
        w.is("those gone count too", x.edge(0, 1, 7), FULL);
        w.is("its going is undone", x.undo(), 1);
        w.is("still full", x.edge(0, 1, 7), FULL);
        w.is("the last one is undone", x.undo(), 1);
        w.is("one more may come", x.edge(1, 0, 8), 299);
        w.is("and no other", x.edge(0, 1, 7), FULL);
        w.is("its weight", x.weight(299), 8);
    }

    /** A row of 100 KNOTS: one EDGE from 0 to 1, then three each, and a few more at the end. */
    private static void bothAtMost(Words w) {
        w.of(0, "KNOTS (100 at most) and EDGES (300 at most, in all)");
        ForestKeeper x = w.keeper(2, new long[100]);
        for (int e = 0; e < 300; e++) {
            int k = Math.min((e + 2) / 3, 98);
            w.is("edge", x.edge(k, k + 1, e), e);
        }
        w.is("bridges", x.count(5), 1);
        w.is("the bridge", x.told(0, 4), 1);
        w.is("none at the end", x.told(299, 4), 0);
        w.is("cut knots", x.count(6), 98);
        w.is("at the end", x.below(99, 4) + x.below(0, 4), 0);
        w.is("tree edges", x.count(2), 99);
        w.is("spare edges", x.count(3), 201);
        w.is("a knot more", x.knot(0), FULL);
        w.is("an edge more", x.edge(0, 99, 0), FULL);
        w.is("the bridge goes", x.cut(0), NONE);
        w.is("parts", x.count(4), 2);
        w.is("cut knots", x.count(6), 97);
    }

    private static void numbersAsTheyCome(Words w) {
        w.of(0, "are numbered from 0 as they come.");
        ForestKeeper x = new ForestKeeper();
        w.is("the first knot", x.knot(5), 0);
        w.is("the second knot", x.knot(5), 1);
        w.is("a refused edge", x.edge(0, 0, 0), BAD);
        w.is("the first edge", x.edge(1, 0, 0), 0);
        w.is("a refused edge", x.edge(0, 1, 0), STATE);
        w.is("a knot among edges", x.knot(5), 2);
        w.is("a refused edge took no number", x.edge(1, 2, 0), 1);
        w.is("one goes", x.cut(0), NONE);
        w.is("its number is not given again", x.edge(0, 1, 0), 2);
    }

    private static void sumsWrap(Words w) {
        w.of(0, "A KNOT has a value (a long, all sums wrap).");
        ForestKeeper x = w.keeper(1, MAX, 1, MIN);
        w.is("the greatest long", x.value(0), MAX);
        w.is("the least long", x.value(2), MIN);
        w.is("edge", x.edge(0, 1, MAX), 0);
        w.is("edge", x.edge(2, 1, MAX), 1);
        w.is("sum over the top", x.sum(0, 1), MIN);
        w.is("sum of all", x.sum(0, 2), 0);
        w.is("sum below", x.sumBelow(1), MIN + 1);
        w.is("total", x.total(), -2);
        w.is("add", x.add(0, 0, 1), 1);
        w.is("a value over the top", x.value(0), MIN);
        w.is("addBelow", x.addBelow(2, -1), 1);
        w.is("a value under the least", x.value(2), MAX);
        w.is("sum under the least", x.sum(0, 2), 0);
        w.is("undo", x.undo(), 1);
        w.is("a value back over it", x.value(2), MIN);
        w.is("undo", x.undo(), 1);
        w.is("a value back under it", x.value(0), MAX);
    }

    private static void unlikeKnots(Words w) {
        w.of(0, "An EDGE has two unlike KNOTS, a first and a second one,");
        for (int kind = 0; kind <= 2; kind++) {
            ForestKeeper x = w.keeper(kind, 0, 0);
            w.is("a knot with itself", x.edge(0, 0, 1), BAD);
            w.is("the last knot with itself", x.edge(1, 1, 1), BAD);
            w.is("unlike ones", x.edge(1, 0, 1), 0);
            w.is("the first one", x.told(0, 1), 1);
            w.is("the second one", x.told(0, 2), 0);
        }
    }

    private static void weightsAndLevels(Words w) {
        w.of(0, "a weight (a long), a LEVEL (0 at first);");
        for (int kind = 0; kind <= 2; kind++) {
            ForestKeeper x = w.keeper(kind, 0, 0, 0, 0);
            long[] weights = {MIN, MAX, 0};
            for (int e = 0; e < 3; e++) {
                w.is("edge", x.edge(e, e + 1, weights[e]), e);
                w.is("its weight", x.weight(e), weights[e]);
                w.is("its level", x.told(e, 3), 0);
            }
        }
        ForestKeeper y = w.keeper(1, 0, 0);
        w.is("a tree edge", y.edge(0, 1, 5), 0);
        w.is("a spare edge", y.edge(0, 1, 5), 1);
        w.is("its level", y.told(1, 3), 0);
    }

    private static void thereTillGone(Words w) {
        w.of(0, "it is there till it is GONE.");
        ForestKeeper x = w.keeper(0, 0, 0);
        w.is("edge", x.edge(0, 1, 0), 0);
        w.is("there", x.told(0, 0), 1);
        w.is("knots beside it", x.knot(0), 2);
        w.is("still there", x.told(0, 0), 1);
        w.is("cut", x.cut(0), NONE);
        w.is("gone", x.told(0, 0), 0);
        w.is("another one between them", x.edge(0, 1, 0), 1);
        w.is("still gone", x.told(0, 0), 0);
    }

    private static void none(Words w) {
        w.of(0, "NONE is -1;");
        w.is("NONE", NONE, -1);
        w.is("undo of nothing", new ForestKeeper().undo(), -1);
    }

    /** A value may be NO itself: it is answered like any other one. */
    private static void no(Words w) {
        w.of(0, "NO, where a long is answered, -4611686018427387904.");
        w.is("NO", NO, -4611686018427387904L);
        w.is("half of the least long", NO, MIN / 2);
        ForestKeeper x = w.keeper(0, NO, 1);
        w.is("a value that is NO", x.value(0), NO);
        w.is("no such value", x.value(2), NO);
        w.is("no such weight", x.weight(0), NO);
        w.is("no such sum", x.sum(0, 1), NO);
        w.is("no such least value", x.least(0, 1), NO);
        w.is("no such sum below", x.sumBelow(2), NO);
        w.is("edge", x.edge(0, 1, NO), 0);
        w.is("a weight that is NO", x.weight(0), NO);
        w.is("a sum beside NO", x.sum(0, 1), NO + 1);
        w.is("a least value that is NO", x.least(1, 0), NO);
    }

    private static void badAheadOfState(Words w) {
        w.of(0, "Refusals, the first that fits: BAD (-2: a number is none such or outside what is told),");
        w.is("BAD", BAD, -2);
        ForestKeeper x = w.keeper(0, 0, 0, 0);
        w.is("edge", x.edge(0, 1, 0), 0);
        for (int k : Words.outside(3)) {
            w.is("an edge from " + k, x.edge(k, 1, 0), BAD);
            w.is("an edge to " + k, x.edge(1, k, 0), BAD);
            w.is("kind(" + k + ") with an edge", x.kind(k), BAD);
            w.is("add from " + k, x.add(k, 2, 0), BAD);
            w.is("add to " + k, x.add(2, k, 0), BAD);
        }
    }

    private static void badAheadOfFull(Words w) {
        w.of(0, "Refusals, the first that fits");
        ForestKeeper x = w.keeper(1, 0, 0);
        for (int i = 0; i < 300; i++) {
            w.is("edge", x.edge(0, 1, 0), i);
        }
        w.is("a = b though full", x.edge(0, 0, 0), BAD);
        w.is("no knot though full", x.edge(0, 2, 0), BAD);
        w.is("no knot though full", x.edge(-1, 0, 0), BAD);
        w.is("full", x.edge(0, 1, 0), FULL);
    }

    private static void stateIsMinusThree(Words w) {
        w.of(0, "STATE (-3)");
        w.is("STATE", STATE, -3);
        ForestKeeper x = w.keeper(0, 0, 0, 0);
        w.is("edge", x.edge(0, 1, 0), 0);
        w.is("together in a plain forest", x.edge(0, 1, 0), -3);
        w.is("kind with an edge", x.kind(1), -3);
        w.is("add to those apart", x.add(0, 2, 0), -3);
    }

    private static void fullIsMinusFour(Words w) {
        w.of(0, "FULL (-4)");
        w.is("FULL", FULL, -4);
        ForestKeeper x = w.keeper(0, new long[100]);
        w.is("knot", x.knot(0), -4);
    }

    /** 0 - 1 - 2 and 3 - 4 apart, an EDGE that is GONE, a named ROOT, a THING in a TRAY. */
    private static ForestKeeper busy(Words w, int kind) {
        ForestKeeper x = w.keeper(kind, 5, 6, 7, 8, 9);
        w.join(x, 0, 1, 3, 1, 2, 4, 3, 4, 5, 2, 3, 6);
        w.is("cut", x.cut(3), NONE);
        w.is("root", x.root(2), 0);
        w.is("add", x.add(0, 2, 10), 3);
        w.is("set", x.set(4, 44), 1);
        w.is("addBelow", x.addBelow(1, 100), 2);
        w.is("put", x.put(0, 2, 0, 0), 1);
        w.is("forge", x.forge(0, 7, 0), -1);
        return x;
    }

    private static void refusalsChangeNothing(Words w) {
        w.of(0, "; they change nothing.");
        for (int kind = 0; kind <= 2; kind++) {
            ForestKeeper x = busy(w, kind);
            for (int n : Words.outside(5)) {
                refusedKnot(w, x, n);
                refusedEdge(w, x, n);
            }
            refusedEdge(w, x, 3);
            w.is("told", x.told(3, 5), BAD);
            w.is("below", x.below(0, 5), BAD);
            w.is("count", x.count(9), BAD);
            w.is("kind", x.kind(kind), STATE);
            w.is("edge of one knot", x.edge(2, 2, 1), BAD);
            w.is("add to those apart", x.add(0, 4, 1), STATE);
            if (kind == 0) {
                w.is("edge of those together", x.edge(0, 2, 1), STATE);
            }
            w.same(x, busy(w, kind));
        }
    }

    private static void refusedKnot(Words w, ForestKeeper x, int k) {
        w.is("kind", x.kind(k), BAD);
        w.is("edge", x.edge(k, 0, 1), BAD);
        w.is("edge", x.edge(0, k, 1), BAD);
        w.is("add", x.add(k, 0, 1), BAD);
        w.is("add", x.add(0, k, 1), BAD);
        w.is("set", x.set(k, 1), BAD);
        w.is("root", x.root(k), BAD);
        w.is("addBelow", x.addBelow(k, 1), BAD);
        w.is("together", x.together(k, 0), BAD);
        w.is("meet", x.meet(k, 0), BAD);
        w.is("sum", x.sum(k, 0), NO);
    }

    private static void refusedEdge(Words w, ForestKeeper x, int e) {
        w.is("cut", x.cut(e), BAD);
        w.is("instead", x.instead(e), BAD);
    }

    private static void fullChangesNothing(Words w) {
        w.of(0, "they change nothing");
        ForestKeeper x = w.keeper(0, new long[100]);
        w.is("edge", x.edge(98, 99, 3), 0);
        w.is("set", x.set(99, 4), 1);
        w.is("a refused knot", x.knot(5), FULL);
        w.is("changes that can be undone", x.count(7), 2);
        w.is("undo", x.undo(), 1);
        w.is("value", x.value(99), 0);
        w.is("undo", x.undo(), 1);
        w.is("edges", x.count(1), 0);
        ForestKeeper y = w.keeper(1, 0, 0);
        for (int i = 0; i < 300; i++) {
            w.is("edge", y.edge(0, 1, i), i);
        }
        w.is("a refused edge", y.edge(0, 1, 5), FULL);
        w.is("changes that can be undone", y.count(7), 20);
        w.is("spare edges", y.count(3), 299);
        w.is("undo", y.undo(), 1);
        w.is("the last edge was undone", y.count(1), 299);
    }
}
