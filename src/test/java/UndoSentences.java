/** The Terms' part 4 and promise 27: which changes can be taken back, and how many. */
final class UndoSentences {
    private static final int NONE = ForestKeeper.NONE, BAD = ForestKeeper.BAD;
    private static final int STATE = ForestKeeper.STATE;
    private static final int SORTS = 6;

    static void all(Words w) {
        notTakenBackTwice(w);
        eachSortIsAChange(w);
        otherCallsAreNone(w);
        refusedOnesAreNone(w);
        twenty(w);
        eachSortFallsOut(w);
        fallenOnesStayOut(w);
        changedNoNumber(w);
        edgeIsNoMore(w);
        spareEdgeIsNoMore(w);
        edgesAreNoMoreOneByOne(w);
        numberIsGivenAgain(w);
        knotForgets(w);
        undoOfEachSort(w);
        undoInASpanningForest(w);
        undoOfNone(w);
    }

    /** 0 - 1 twice, 2 and 3 by themselves, of SPARE kind, with nothing that can be undone. */
    private static ForestKeeper fresh(Words w) {
        ForestKeeper x = w.keeper(1, 10, 20, 30);
        w.is("edge", x.edge(0, 1, 5), 0);
        w.is("edge", x.edge(1, 0, 6), 1);
        w.is("knot", x.knot(40), 3);
        w.is("changes", x.count(7), 0);
        return x;
    }

    private static void change(Words w, ForestKeeper x, int sort) {
        switch (sort) {
            case 0:
                w.is("set", x.set(2, 33), 1);
                break;
            case 1:
                w.is("add", x.add(0, 1, 7), 2);
                break;
            case 2:
                w.is("addBelow", x.addBelow(0, 7), 2);
                break;
            case 3:
                w.is("root", x.root(1), 0);
                break;
            case 4:
                w.is("edge", x.edge(1, 2, 9), 2);
                break;
            default:
                w.is("cut", x.cut(0), 1);
                break;
        }
    }

    private static void notTakenBackTwice(Words w) {
        w.of(0, "UNDO takes back the latest change that was not taken back;");
        ForestKeeper x = w.keeper(0, 0);
        w.is("set", x.set(0, 1), 1);
        w.is("set", x.set(0, 2), 1);
        w.is("undo", x.undo(), 1);
        w.is("value", x.value(0), 1);
        w.is("set", x.set(0, 3), 1);
        w.is("undo the third", x.undo(), 1);
        w.is("value", x.value(0), 1);
        w.is("undo the first, since the second is", x.undo(), 1);
        w.is("value", x.value(0), 0);
        w.is("none is left", x.undo(), NONE);
    }

    private static void eachSortIsAChange(Words w) {
        w.of(0, "changes are set(), add(), addBelow(), root(), edge(), cut()");
        for (int sort = 0; sort < SORTS; sort++) {
            ForestKeeper x = fresh(w);
            change(w, x, sort);
            w.is("changes", x.count(7), 1);
            w.is("undo", x.undo(), 1);
            w.is("changes", x.count(7), 0);
            w.same(x, fresh(w));
        }
    }

    private static void otherCallsAreNone(Words w) {
        w.of(0, "changes are set(), add(), addBelow(), root(), edge(), cut()");
        ForestKeeper x = new ForestKeeper();
        w.is("knot", x.knot(4), 0);
        w.is("kind", x.kind(2), 0);
        w.is("put", x.put(0, 2, 0, 0), 1);
        w.is("forge", x.forge(0, 1, 0), 0);
        w.is("undo", x.undo(), NONE);
        w.is("value", x.value(0), 4);
        w.is("changes", x.count(7), 0);
        w.is("set", x.set(0, 5), 1);
        w.is("kind", x.kind(1), 2);
        w.is("put", x.put(0, 0, 0, 0), 1);
        w.is("undo", x.undo(), 1);
        w.is("the value is as it was", x.value(0), 4);
        w.is("the kind is not", x.kind(0), 1);
        w.is("the tray is not", x.forge(0, 1, 0), -1);
        w.is("status", x.status(), 10);
        w.is("undo", x.undo(), NONE);
        w.is("status stays", x.status(), 10);
    }

    private static void refusedOnesAreNone(Words w) {
        w.of(0, "that were not refused,");
        ForestKeeper x = w.keeper(0, 0, 0, 0);
        w.is("edge", x.edge(0, 1, 0), 0);
        w.is("set", x.set(3, 1), BAD);
        w.is("add", x.add(0, 3, 1), BAD);
        w.is("add", x.add(0, 2, 1), STATE);
        w.is("addBelow", x.addBelow(-1, 1), BAD);
        w.is("root", x.root(3), BAD);
        w.is("edge", x.edge(2, 2, 1), BAD);
        w.is("edge", x.edge(1, 0, 1), STATE);
        w.is("cut", x.cut(1), BAD);
        w.is("changes", x.count(7), 1);
        w.is("cut", x.cut(0), NONE);
        w.is("cut one that is gone", x.cut(0), BAD);
        w.is("changes", x.count(7), 2);
        w.is("undo", x.undo(), 1);
        w.is("undo", x.undo(), 1);
        w.is("undo", x.undo(), NONE);
    }

    private static void twenty(Words w) {
        w.of(0, "the latest 20 of them");
        for (int many = 19; many <= 22; many++) {
            ForestKeeper x = w.keeper(0, 0);
            for (int i = 1; i <= many; i++) {
                w.is("set", x.set(0, i), 1);
            }
            int kept = Math.min(many, 20);
            w.is("changes", x.count(7), kept);
            for (int i = 1; i <= kept; i++) {
                w.is("undo", x.undo(), 1);
                w.is("value", x.value(0), many - i);
            }
            w.is("no more", x.undo(), NONE);
            w.is("value", x.value(0), many - kept);
        }
    }

    /** The 21st change back stays, of whatever sort it was. */
    private static void eachSortFallsOut(Words w) {
        w.of(0, "the latest 20 of them");
        for (int sort = 0; sort < SORTS; sort++) {
            ForestKeeper x = fresh(w);
            ForestKeeper y = fresh(w);
            change(w, x, sort);
            change(w, y, sort);
            for (int i = 0; i < 20; i++) {
                w.is("set", x.set(3, i), 1);
            }
            for (int i = 0; i < 20; i++) {
                w.is("undo", x.undo(), 1);
            }
            w.is("it can't be undone", x.undo(), NONE);
            // In y it can, but that is forgotten with a KNOT; both get one.
            w.is("knot", x.knot(1), 4);
            w.is("knot", y.knot(1), 4);
            w.same(x, y);
        }
    }

    private static void fallenOnesStayOut(Words w) {
        w.of(0, "the latest 20 of them");
        ForestKeeper x = w.keeper(0, 0);
        for (int i = 1; i <= 21; i++) {
            w.is("set", x.set(0, i), 1);
        }
        w.is("undo", x.undo(), 1);
        w.is("changes", x.count(7), 19);
        w.is("set", x.set(0, 100), 1);
        w.is("changes", x.count(7), 20);
        w.is("set", x.set(0, 101), 1);
        w.is("changes", x.count(7), 20);
    }

    private static void changedNoNumber(Words w) {
        w.of(0, "(also those that changed no number;");
        ForestKeeper x = w.keeper(1, 5, 6);
        w.is("edge", x.edge(0, 1, 0), 0);
        w.is("edge", x.edge(0, 1, 0), 1);
        w.is("cut a spare edge", x.cut(1), NONE);
        w.is("set what it is", x.set(0, 5), 1);
        w.is("add 0", x.add(0, 1, 0), 2);
        w.is("addBelow 0", x.addBelow(0, 0), 2);
        w.is("name the root", x.root(0), 0);
        w.is("name it again", x.root(0), 0);
        w.is("changes", x.count(7), 8);
        for (int i = 0; i < 5; i++) {
            w.is("undo", x.undo(), 1);
            w.is("value", x.value(0), 5);
        }
        w.is("the cut is left", x.told(1, 0), 0);
        w.is("undo it", x.undo(), 1);
        w.is("spare again", x.told(1, 0), 2);
    }

    private static void edgeIsNoMore(Words w) {
        w.of(0, "an EDGE that came is no more,");
        ForestKeeper x = w.keeper(1, 0, 0);
        w.is("edge", x.edge(0, 1, 7), 0);
        w.is("undo", x.undo(), 1);
        w.is("none came", x.count(1), 0);
        w.is("told", x.told(0, 0), BAD);
        w.is("weight", x.weight(0), ForestKeeper.NO);
        w.is("cut", x.cut(0), BAD);
        w.is("instead", x.instead(0), BAD);
        w.is("together", x.together(0, 1), 0);
        w.is("put", x.put(0, 1, 0, 0), -1);
        w.is("status", x.status(), 1);
    }

    private static void spareEdgeIsNoMore(Words w) {
        w.of(0, "an EDGE that came is no more,");
        for (int kind = 1; kind <= 2; kind++) {
            ForestKeeper x = w.keeper(kind, 0, 0);
            w.join(x, 0, 1, 7, 0, 1, 8);
            w.is("it would come in", x.instead(0), 1);
            w.is("undo", x.undo(), 1);
            w.is("spare edges", x.count(3), 0);
            w.is("a bridge again", x.told(0, 4), 1);
            w.is("it would not", x.instead(0), NONE);
            w.is("it does not", x.cut(0), NONE);
            w.is("nothing rose", x.count(8), 0);
        }
    }

    /** KNOT 0 has many EDGES: with each that is no more, those before it are as they were. */
    private static void edgesAreNoMoreOneByOne(Words w) {
        w.of(0, "an EDGE that came is no more,");
        ForestKeeper x = w.keeper(0, new long[12]);
        for (int e = 0; e < 11; e++) {
            w.is("edge", e % 2 == 0 ? x.edge(0, e + 1, 0) : x.edge(e + 1, 0, 0), e);
        }
        for (int e = 10; e >= 0; e--) {
            w.is("undo", x.undo(), 1);
            w.is("size", x.size(0), e + 1);
            w.is("bridges", x.count(5), e);
            w.is("by itself", x.size(e + 1), 1);
        }
    }

    private static void numberIsGivenAgain(Words w) {
        w.of(0, "and its number is given again).");
        ForestKeeper x = w.keeper(1, 0, 0, 0);
        w.join(x, 0, 1, 7, 0, 1, 8);
        w.is("undo the spare one", x.undo(), 1);
        w.is("undo the tree one", x.undo(), 1);
        w.is("the number again", x.edge(2, 1, 9), 0);
        w.is("first", x.told(0, 1), 2);
        w.is("second", x.told(0, 2), 1);
        w.is("weight", x.weight(0), 9);
        w.is("tree", x.told(0, 0), 1);
        w.is("level", x.told(0, 3), 0);
        w.is("the old one holds nothing", x.together(0, 1), 0);
        w.is("the next number", x.edge(0, 1, 1), 1);
        w.is("tree", x.told(1, 0), 1);
    }

    private static void knotForgets(Words w) {
        w.of(0, "knot() makes that none before it can be taken back.");
        for (int sort = 0; sort < SORTS; sort++) {
            ForestKeeper x = fresh(w);
            change(w, x, sort);
            w.is("knot", x.knot(1), 4);
            w.is("changes", x.count(7), 0);
            w.is("undo", x.undo(), NONE);
            w.is("set", x.set(4, 2), 1);
            w.is("what comes after it can", x.undo(), 1);
            w.is("value", x.value(4), 1);
            w.is("but none before it", x.undo(), NONE);
        }
    }

    private static void undoOfEachSort(Words w) {
        w.of(27, "The latest change is undone: 1;");
        ForestKeeper x = fresh(w);
        for (int sort = 0; sort < SORTS - 1; sort++) {
            change(w, x, sort);
        }
        w.is("name the root of another part", x.root(3), 3);
        w.is("cut what joins", x.cut(2), NONE);
        w.is("cut a tree edge", x.cut(0), 1);
        w.is("changes", x.count(7), 8);
        for (int i = 0; i < 8; i++) {
            w.is("undo", x.undo(), 1);
        }
        w.same(x, fresh(w));
    }

    private static void undoInASpanningForest(Words w) {
        w.of(27, "The latest change is undone: 1;");
        ForestKeeper x = w.keeper(2, 0, 0, 0);
        w.join(x, 0, 1, 5, 1, 2, 9, 2, 0, 7);
        w.is("the heaviest became spare", x.told(1, 0), 2);
        w.is("undo what was lighter", x.undo(), 1);
        w.is("it is tree again", x.told(1, 0), 1);
        w.is("total", x.total(), 14);
        w.is("heavier than all", x.edge(2, 0, 10), 2);
        w.is("undo a spare one", x.undo(), 1);
        w.is("total", x.total(), 14);
        w.is("lighter", x.edge(2, 0, 1), 2);
        w.is("it goes", x.cut(2), 1);
        w.is("undo the cut", x.undo(), 1);
        w.is("the one that came in is spare again", x.told(1, 0), 2);
        w.is("the one that went is tree again", x.told(2, 0), 1);
        w.is("total", x.total(), 6);
    }

    private static void undoOfNone(Words w) {
        w.of(27, "NONE: there is none.");
        ForestKeeper x = new ForestKeeper();
        w.is("a new object", x.undo(), NONE);
        w.is("knot", x.knot(3), 0);
        w.is("a knot is not undone", x.undo(), NONE);
        w.is("knots", x.count(0), 1);
        w.is("set", x.set(0, 4), 1);
        w.is("undo", x.undo(), 1);
        w.is("undo is not undone", x.undo(), NONE);
        w.is("value", x.value(0), 3);
    }
}
