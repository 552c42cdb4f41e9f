/** Promises 1 to 10: KNOTS, THE KIND, EDGES that come and go, and what is told of them. */
final class EdgeSentences {
    private static final int NONE = ForestKeeper.NONE, BAD = ForestKeeper.BAD;
    private static final int STATE = ForestKeeper.STATE, FULL = ForestKeeper.FULL;
    private static final long NO = ForestKeeper.NO;
    private static final long MIN = Long.MIN_VALUE, MAX = Long.MAX_VALUE;

    static void all(Words w) {
        nothingAtFirst(w);
        knotNumbers(w);
        knotsFull(w);
        eachKind(w);
        noSuchKind(w);
        kindWithAnEdge(w);
        edgeNumbers(w);
        edgeOfNoKnots(w);
        edgesFull(w);
        edgeOfThoseTogether(w);
        fullAheadOfState(w);
        cutAnswers(w);
        cutWithoutHeir(w);
        cutOfNone(w);
        insteadAnswers(w);
        insteadOfNone(w);
        howItIs(w);
        whatIsTold(w);
        whetherABridge(w);
        toldOfNone(w);
        weights(w);
        noWeight(w);
        counts(w);
        countOfChanges(w);
        countOfRises(w);
        noSuchCount(w);
        totals(w);
    }

    private static void nothingAtFirst(Words w) {
        w.of(1, "No KNOTS, no EDGES, a PLAIN forest.");
        ForestKeeper x = new ForestKeeper();
        for (int what = 0; what <= 8; what++) {
            w.is("count(" + what + ")", x.count(what), 0);
        }
        w.is("no knot 0", x.value(0), NO);
        w.is("no part of it", x.size(0), BAD);
        w.is("not with itself", x.together(0, 0), BAD);
        w.is("no edge 0", x.told(0, 0), BAD);
        w.is("no weight of it", x.weight(0), NO);
        w.is("no total", x.total(), 0);
        w.is("knot", x.knot(0), 0);
        w.is("knot", x.knot(0), 1);
        w.is("edge", x.edge(0, 1, 0), 0);
        w.is("plain: a second one is refused", x.edge(0, 1, 0), STATE);
        w.is("another object has none of that", new ForestKeeper().count(0), 0);
    }

    private static void knotNumbers(Words w) {
        w.of(2, "A KNOT with a value: its number.");
        ForestKeeper x = new ForestKeeper();
        long[] values = {MIN, -1, 0, 1, MAX, NO};
        for (int i = 0; i < values.length; i++) {
            w.is("knot", x.knot(values[i]), i);
            w.is("how many", x.count(0), i + 1);
            w.is("by itself", x.size(i), 1);
        }
        for (int i = 0; i < values.length; i++) {
            w.is("value", x.value(i), values[i]);
        }
    }

    private static void knotsFull(Words w) {
        w.of(2, "FULL.");
        ForestKeeper x = w.keeper(0, new long[99]);
        w.is("the hundredth", x.knot(1), 99);
        w.is("one more", x.knot(2), FULL);
        w.is("again", x.knot(MIN), FULL);
        w.is("the hundredth is as it was", x.value(99), 1);
        w.is("how many", x.count(0), 100);
    }

    private static void eachKind(Words w) {
        w.of(3, "THE KIND becomes 0, 1 or 2: what it was.");
        ForestKeeper x = new ForestKeeper();
        int[] kinds = {0, 1, 1, 2, 2, 0, 2, 1, 0};
        int was = 0;
        for (int k : kinds) {
            w.is("kind(" + k + ")", x.kind(k), was);
            was = k;
        }
    }

    private static void noSuchKind(Words w) {
        w.of(3, "BAD;");
        ForestKeeper x = new ForestKeeper();
        w.is("kind(2)", x.kind(2), 0);
        for (int k : Words.outside(3)) {
            w.is("kind(" + k + ")", x.kind(k), BAD);
        }
        w.is("it is as it was", x.kind(0), 2);
    }

    private static void kindWithAnEdge(Words w) {
        w.of(3, "STATE: an EDGE came, and was not undone.");
        ForestKeeper x = w.keeper(1, 0, 0);
        w.is("a refused edge", x.edge(0, 0, 0), BAD);
        w.is("it did not come", x.kind(2), 1);
        w.is("edge", x.edge(0, 1, 0), 0);
        for (int k = 0; k <= 2; k++) {
            w.is("kind(" + k + ")", x.kind(k), STATE);
        }
        w.is("cut", x.cut(0), NONE);
        w.is("one that is gone came too", x.kind(0), STATE);
        w.is("undo the cut", x.undo(), 1);
        w.is("it is there again", x.kind(0), STATE);
        w.is("undo the edge", x.undo(), 1);
        w.is("it was undone", x.kind(0), 2);
        w.is("edge", x.edge(0, 1, 0), 0);
        w.is("and the new kind holds", x.edge(0, 1, 0), STATE);
    }

    private static void edgeNumbers(Words w) {
        w.of(4, "An EDGE between a and b: its number.");
        for (int kind = 0; kind <= 2; kind++) {
            ForestKeeper x = w.keeper(kind, 0, 0, 0);
            w.is("the first", x.edge(2, 0, 1), 0);
            w.is("the second", x.edge(0, 1, 1), 1);
            w.is("from", x.told(0, 1), 2);
            w.is("to", x.told(0, 2), 0);
        }
    }

    private static void edgeOfNoKnots(Words w) {
        w.of(4, "BAD: also a = b.");
        for (int kind = 0; kind <= 2; kind++) {
            ForestKeeper x = w.keeper(kind, 0, 0);
            for (int k : Words.outside(2)) {
                w.is("edge(" + k + ", 0)", x.edge(k, 0, 0), BAD);
                w.is("edge(1, " + k + ")", x.edge(1, k, 0), BAD);
                w.is("edge of both", x.edge(k, k, 0), BAD);
            }
            w.is("edge(0, 0)", x.edge(0, 0, 0), BAD);
            w.is("edge(1, 1)", x.edge(1, 1, 0), BAD);
            w.is("none came", x.count(1), 0);
        }
    }

    private static void edgesFull(Words w) {
        w.of(4, "FULL.");
        ForestKeeper x = w.keeper(2, 0, 0, 0);
        for (int i = 0; i < 300; i++) {
            w.is("edge " + i, x.edge(0, 1, -i), i);
        }
        w.is("of those together", x.edge(0, 1, -300), FULL);
        w.is("of those apart", x.edge(1, 2, 0), FULL);
        w.is("nothing was joined", x.together(1, 2), 0);
        w.is("the lightest stays tree", x.told(299, 0), 1);
        w.is("how many", x.count(1), 300);
    }

    private static void edgeOfThoseTogether(Words w) {
        w.of(4, "STATE: PLAIN, and they are TOGETHER");
        for (int kind = 0; kind <= 2; kind++) {
            ForestKeeper x = w.keeper(kind, 0, 0, 0, 0);
            w.join(x, 0, 1, 0, 1, 2, 0);
            w.is("by two edges", x.edge(2, 0, 9), kind == 0 ? STATE : 2);
            w.is("by one edge", x.edge(1, 0, 9), kind == 0 ? STATE : 3);
            w.is("apart", x.edge(3, 0, 9), kind == 0 ? 2 : 4);
        }
    }

    /** A PLAIN forest takes 601 calls to be full: what it answers then is free, but it holds. */
    private static void fullAheadOfState(Words w) {
        w.of(4, "(FULL goes ahead of it).");
        ForestKeeper x = w.keeper(0, 0, 0);
        for (int i = 0; i < 299; i++) {
            w.is("edge", x.edge(0, 1, 0), i);
            w.is("cut", x.cut(i), NONE);
        }
        w.is("the last edge", x.edge(0, 1, 0), 299);
        w.is("together, and full", x.edge(0, 1, 0), FULL);
        w.is("a = b, and full", x.edge(1, 1, 0), BAD);
        w.is("cut", x.cut(299), NONE);
        w.is("apart, and full", x.edge(0, 1, 0), FULL);
        w.is("undo", x.undo(), 1);
        w.is("undo", x.undo(), 1);
        w.is("undo the cut of the one before", x.undo(), 1);
        w.is("together, and not full", x.edge(0, 1, 0), STATE);
    }

    private static void cutAnswers(Words w) {
        w.of(5, "An EDGE goes: the one that became TREE for it;");
        for (int kind = 1; kind <= 2; kind++) {
            ForestKeeper x = w.keeper(kind, 0, 0);
            w.join(x, 0, 1, 1, 0, 1, 2, 1, 0, 3);
            w.is("a tree edge", x.cut(0), 1);
            w.is("it is gone", x.told(0, 0), 0);
            w.is("the other is tree", x.told(1, 0), 1);
            w.is("that one too", x.cut(1), 2);
            w.is("the third is tree", x.told(2, 0), 1);
        }
    }

    private static void cutWithoutHeir(Words w) {
        w.of(5, "NONE.");
        for (int kind = 0; kind <= 2; kind++) {
            ForestKeeper x = w.keeper(kind, 0, 0);
            w.is("edge", x.edge(0, 1, 1), 0);
            w.is("the only one", x.cut(0), NONE);
            w.is("they are apart", x.together(0, 1), 0);
            w.is("edge", x.edge(0, 1, 1), 1);
            if (kind > 0) {
                w.is("edge", x.edge(0, 1, 2), 2);
                w.is("a spare one", x.cut(2), NONE);
                w.is("they are together", x.together(0, 1), 1);
            }
        }
    }

    private static void cutOfNone(Words w) {
        w.of(5, "BAD: also one that is GONE.");
        ForestKeeper x = w.keeper(1, 0, 0);
        for (int e : Words.outside(0)) {
            w.is("none came: cut(" + e + ")", x.cut(e), BAD);
        }
        w.join(x, 0, 1, 1, 0, 1, 2);
        for (int e : Words.outside(2)) {
            w.is("cut(" + e + ")", x.cut(e), BAD);
        }
        w.is("cut", x.cut(1), NONE);
        w.is("a spare one that is gone", x.cut(1), BAD);
        w.is("cut", x.cut(0), NONE);
        w.is("a tree one that is gone", x.cut(0), BAD);
        w.is("changes", x.count(7), 4);
        w.is("undo", x.undo(), 1);
        w.is("there again", x.cut(0), NONE);
    }

    private static void insteadAnswers(Words w) {
        w.of(6, "The EDGE that would become TREE if e went; NONE: none, or it is SPARE.");
        for (int kind = 0; kind <= 2; kind++) {
            ForestKeeper x = w.keeper(kind, 0, 0, 0, 0);
            w.join(x, 0, 1, 1, 1, 2, 1, 2, 3, 1);
            w.is("none", x.instead(1), NONE);
            w.is("edge", x.edge(3, 1, 9), kind == 0 ? STATE : 3);
            w.is("a ring", x.instead(1), kind == 0 ? NONE : 3);
            w.is("a bridge", x.instead(0), NONE);
            if (kind > 0) {
                w.is("a spare one", x.instead(3), NONE);
            }
            w.is("nothing rose", x.count(8), 0);
            w.is("nothing went", x.told(1, 0), 1);
            w.is("no change", x.count(7), kind == 0 ? 3 : 4);
            w.is("as cut()", x.cut(1), kind == 0 ? NONE : 3);
        }
    }

    private static void insteadOfNone(Words w) {
        w.of(6, "BAD: as cut().");
        ForestKeeper x = w.keeper(1, 0, 0);
        w.is("none came", x.instead(0), BAD);
        w.join(x, 0, 1, 1, 0, 1, 2);
        for (int e : Words.outside(2)) {
            w.is("instead(" + e + ")", x.instead(e), BAD);
        }
        w.is("cut", x.cut(0), 1);
        w.is("one that is gone", x.instead(0), BAD);
        w.is("undo", x.undo(), 1);
        w.is("there again", x.instead(0), 1);
    }

    private static void howItIs(Words w) {
        w.of(7, "Of an EDGE: 0 how it is: 0 GONE, 1 TREE, 2 SPARE;");
        ForestKeeper x = w.keeper(1, 0, 0);
        w.join(x, 0, 1, 1, 0, 1, 2);
        w.is("tree", x.told(0, 0), 1);
        w.is("spare", x.told(1, 0), 2);
        w.is("cut", x.cut(0), 1);
        w.is("gone", x.told(0, 0), 0);
        w.is("tree", x.told(1, 0), 1);
    }

    private static void whatIsTold(Words w) {
        w.of(7, "1 its first KNOT, 2 its second one, 3 its LEVEL,");
        ForestKeeper x = w.keeper(1, 0, 0, 0, 0);
        w.join(x, 1, 0, 0, 2, 3, 0, 1, 2, 0);
        w.is("first", x.told(0, 1), 1);
        w.is("second", x.told(0, 2), 0);
        w.is("level", x.told(0, 3), 0);
        w.is("cut", x.cut(2), NONE);
        w.is("level", x.told(0, 3), 1);
        w.is("level", x.told(1, 3), 0);
        w.is("cut", x.cut(0), NONE);
        w.is("gone: first", x.told(0, 1), 1);
        w.is("gone: second", x.told(0, 2), 0);
        w.is("gone: level", x.told(0, 3), 1);
    }

    private static void whetherABridge(Words w) {
        w.of(7, "4 whether it is a BRIDGE (1, 0; GONE: 0).");
        ForestKeeper x = w.keeper(1, 0, 0, 0);
        w.join(x, 0, 1, 0, 1, 2, 0, 2, 1, 0);
        w.is("a bridge", x.told(0, 4), 1);
        w.is("none: tree", x.told(1, 4), 0);
        w.is("none: spare", x.told(2, 4), 0);
        w.is("cut", x.cut(0), NONE);
        w.is("one that is gone was a bridge", x.told(0, 4), 0);
        w.is("cut", x.cut(1), 2);
        w.is("one that is gone was none", x.told(1, 4), 0);
        w.is("now it is one", x.told(2, 4), 1);
    }

    private static void toldOfNone(Words w) {
        w.of(7, "BAD.");
        ForestKeeper x = w.keeper(1, 0, 0);
        w.join(x, 0, 1, 0, 0, 1, 0);
        for (int what = -1; what <= 5; what++) {
            for (int e : Words.outside(2)) {
                w.is("told(" + e + ", " + what + ")", x.told(e, what), BAD);
            }
        }
        for (int what : Words.outside(5)) {
            w.is("told(0, " + what + ")", x.told(0, what), BAD);
        }
        w.is("cut", x.cut(0), 1);
        w.is("one that is gone", x.told(0, 5), BAD);
        w.is("undo", x.undo(), 1);
        w.is("undo", x.undo(), 1);
        w.is("one that was undone", x.told(1, 0), BAD);
    }

    private static void weights(Words w) {
        w.of(8, "The weight of an EDGE.");
        ForestKeeper x = w.keeper(2, 0, 0);
        long[] weights = {MAX, MIN, 0, -1, NO};
        for (int e = 0; e < weights.length; e++) {
            w.is("edge", x.edge(0, 1, weights[e]), e);
        }
        w.is("cut", x.cut(0), NONE);
        for (int e = 0; e < weights.length; e++) {
            w.is("weight", x.weight(e), weights[e]);
        }
    }

    private static void noWeight(Words w) {
        w.of(8, "NO: no such.");
        ForestKeeper x = w.keeper(1, 0, 0);
        w.is("none came", x.weight(0), NO);
        w.join(x, 0, 1, 5, 0, 1, 6);
        for (int e : Words.outside(2)) {
            w.is("weight(" + e + ")", x.weight(e), NO);
        }
        w.is("undo", x.undo(), 1);
        w.is("one that was undone", x.weight(1), NO);
        w.is("the other one", x.weight(0), 5);
    }

    private static void counts(Words w) {
        w.of(9, "How many: 0 KNOTS, 1 EDGES that came, 2 TREE, 3 SPARE, 4 PARTS, 5 BRIDGES, 6 CUT KNOTS,");
        ForestKeeper x = w.keeper(1, 0, 0, 0, 0, 0);
        int[] apart = {5, 0, 0, 0, 5, 0, 0};
        countsAre(w, x, apart);
        w.join(x, 0, 1, 0, 1, 2, 0, 2, 0, 0, 2, 3, 0);
        countsAre(w, x, 5, 4, 3, 1, 2, 1, 1);
        w.is("a spare one goes", x.cut(2), NONE);
        countsAre(w, x, 5, 4, 3, 0, 2, 3, 2);
        w.is("a tree one goes", x.cut(1), NONE);
        countsAre(w, x, 5, 4, 2, 0, 3, 2, 0);
        for (int i = 0; i < 6; i++) {
            w.is("undo", x.undo(), 1);
        }
        countsAre(w, x, apart);
    }

    private static void countsAre(Words w, ForestKeeper x, int... want) {
        for (int what = 0; what < want.length; what++) {
            w.is("count(" + what + ")", x.count(what), want[what]);
        }
    }

    private static void countOfChanges(Words w) {
        w.of(9, "7 changes that can be undone,");
        ForestKeeper x = w.keeper(0, 0);
        for (int i = 0; i <= 25; i++) {
            w.is("count(7)", x.count(7), Math.min(i, 20));
            w.is("set", x.set(0, i), 1);
        }
        for (int i = 20; i >= 0; i--) {
            w.is("count(7)", x.count(7), i);
            w.is("undo", x.undo(), i > 0 ? 1 : NONE);
        }
        w.is("count(7)", x.count(7), 0);
        w.is("set", x.set(0, 1), 1);
        w.is("knot", x.knot(0), 1);
        w.is("before a knot", x.count(7), 0);
    }

    private static void countOfRises(Words w) {
        w.of(9, "8 how often a LEVEL rose (what is undone did not).");
        ForestKeeper x = w.keeper(1, 0, 0, 0, 0);
        w.join(x, 0, 1, 0, 2, 3, 0, 1, 2, 0, 1, 0, 0, 3, 0, 0);
        w.is("at first", x.count(8), 0);
        w.is("asking", x.instead(2), 4);
        w.is("asked only", x.count(8), 0);
        w.is("cut", x.cut(2), 4);
        w.is("a tree one and a spare one", x.count(8), 2);
        w.is("what rose goes", x.cut(3), NONE);
        w.is("it did rise", x.count(8), 2);
        w.is("undo", x.undo(), 1);
        w.is("of another change", x.count(8), 2);
        w.is("undo", x.undo(), 1);
        w.is("what is undone did not", x.count(8), 0);
        w.is("cut again", x.cut(2), 4);
        w.is("rose again", x.count(8), 2);
        w.is("knot", x.knot(0), 4);
        w.is("undo", x.undo(), NONE);
        w.is("it stays", x.count(8), 2);
    }

    private static void noSuchCount(Words w) {
        w.of(9, "BAD.");
        ForestKeeper x = new ForestKeeper();
        for (int what : Words.outside(9)) {
            w.is("count(" + what + ")", x.count(what), BAD);
        }
        w.is("the last one", x.count(8), 0);
    }

    private static void totals(Words w) {
        w.of(10, "The sum of the weights of all TREE edges.");
        ForestKeeper x = w.keeper(1, 0, 0, 0);
        w.is("of none", x.total(), 0);
        w.is("edge", x.edge(0, 1, MIN), 0);
        w.is("of one", x.total(), MIN);
        w.is("edge", x.edge(1, 2, -1), 1);
        w.is("wraps below", x.total(), MAX);
        w.is("edge", x.edge(0, 2, 77), 2);
        w.is("without spare ones", x.total(), MAX);
        w.is("cut", x.cut(0), 2);
        w.is("without those gone", x.total(), 76);
        w.is("cut", x.cut(1), NONE);
        w.is("cut", x.cut(2), NONE);
        w.is("of none that is there", x.total(), 0);
    }
}
