/** Promise 27: each sort of change is taken back, the latest 20 of them. */
public final class UndoTest {
    private static final int NONE = ForestKeeper.NONE;
    private static final Due d = new Due();

    public static void main(String[] args) {
        eachSort();
        latestTwenty();
        changesThatChangeNothing();
        knotForgets();
        edgeNumbersComeAgain();
        spanningIsRestored();
        sparesAreRestored();
        namesAreRestored();
        d.finish();
    }

    private static void undo(ForestKeeper x, String what) {
        d.is("P27 undo " + what, x.undo(), 1);
    }

    private static void eachSort() {
        ForestKeeper x = d.keeper(0, 1, 2, 3);
        d.join(x, 0, 1, 0, 1, 2, 0);
        d.is("set", x.set(0, 50), 1);
        d.is("add", x.add(0, 1, 7), 2);
        d.is("root", x.root(1), 0);
        d.is("addBelow", x.addBelow(2, 100), 1);
        d.is("cut", x.cut(0), NONE);
        d.is("P9 changes", x.count(7), 7);
        undo(x, "cut");
        d.is("tree again", x.told(0, 0), 1);
        undo(x, "addBelow");
        d.is("value", x.value(2), 3);
        undo(x, "root");
        d.is("root", x.below(2, 0), 0);
        undo(x, "add");
        d.is("value", x.value(0), 50);
        d.is("value", x.value(1), 2);
        undo(x, "set");
        d.is("value", x.value(0), 1);
        undo(x, "edge");
        d.is("edges", x.count(1), 1);
        d.is("apart", x.together(1, 2), 0);
        undo(x, "edge");
        d.is("apart", x.together(0, 1), 0);
        d.is("P27 none", x.undo(), NONE);
        d.is("P9 changes", x.count(7), 0);
    }

    private static void latestTwenty() {
        ForestKeeper x = d.keeper(0, 0);
        for (int i = 1; i <= 25; i++) {
            d.is("set", x.set(0, i), 1);
            d.is("P9 changes", x.count(7), Math.min(i, 20));
        }
        for (int i = 24; i >= 15; i--) {
            undo(x, "set");
            d.is("value", x.value(0), i);
        }
        for (int i = 1; i <= 3; i++) {
            d.is("set", x.set(0, 100 + i), 1);
        }
        d.is("P9 changes", x.count(7), 13);
        for (int i = 0; i < 13; i++) {
            undo(x, "set");
        }
        d.is("value", x.value(0), 5);
        d.is("P27 none", x.undo(), NONE);
        d.is("value", x.value(0), 5);
    }

    private static void changesThatChangeNothing() {
        ForestKeeper x = d.keeper(0, 5, 6);
        d.is("set", x.set(0, 9), 1);
        d.is("set the same", x.set(0, 9), 1);
        d.is("add 0", x.add(0, 0, 0), 1);
        d.is("addBelow 0", x.addBelow(0, 0), 1);
        d.is("root of itself", x.root(0), 0);
        d.is("P9 changes", x.count(7), 5);
        for (int i = 0; i < 4; i++) {
            undo(x, "what changed no number");
            d.is("value", x.value(0), 9);
        }
        undo(x, "set");
        d.is("value", x.value(0), 5);
    }

    private static void knotForgets() {
        ForestKeeper x = d.keeper(0, 5, 6);
        d.is("set", x.set(0, 9), 1);
        d.is("edge", x.edge(0, 1, 1), 0);
        d.is("knot", x.knot(7), 2);
        d.is("P9 changes", x.count(7), 0);
        d.is("P27 none", x.undo(), NONE);
        d.is("value", x.value(0), 9);
        d.is("edges", x.count(1), 1);
        d.is("set", x.set(2, 1), 1);
        undo(x, "set");
        d.is("value", x.value(2), 7);
        d.is("P27 none", x.undo(), NONE);
        // kind(), put() and forge() are no changes.
        d.is("put", x.put(0, 2, 0, 0), 1);
        d.is("forge", x.forge(0, 1, 0), 0);
        d.is("P27 none", x.undo(), NONE);
    }

    private static void edgeNumbersComeAgain() {
        ForestKeeper x = d.keeper(1, 0, 0, 0);
        d.join(x, 0, 1, 5, 0, 1, 6, 1, 2, 7);
        undo(x, "edge");
        d.is("no such", x.told(2, 0), ForestKeeper.BAD);
        d.is("no such", x.weight(2), ForestKeeper.NO);
        d.is("no such", x.cut(2), ForestKeeper.BAD);
        d.is("the number again", x.edge(2, 0, 8), 2);
        d.is("its first knot", x.told(2, 1), 2);
        d.is("its second knot", x.told(2, 2), 0);
        d.is("its weight", x.weight(2), 8);
        d.is("way", x.way(2, 1), 2);
        undo(x, "edge");
        undo(x, "spare edge");
        d.is("none instead", x.instead(0), NONE);
        d.is("spare", x.count(3), 0);
    }

    private static void spanningIsRestored() {
        ForestKeeper x = d.keeper(2, 0, 0, 0);
        d.join(x, 0, 1, 5, 1, 2, 9, 0, 2, 6);
        d.is("spare", x.told(1, 0), 2);
        undo(x, "edge");
        d.is("tree again", x.told(1, 0), 1);
        d.is("total", x.total(), 14);
        d.is("heavier", x.edge(0, 2, 20), 2);
        undo(x, "spare edge");
        d.is("total", x.total(), 14);
        d.is("lighter", x.edge(0, 2, 1), 2);
        d.is("cut", x.cut(0), 1);
        undo(x, "cut");
        d.is("spare again", x.told(1, 0), 2);
        d.is("tree again", x.told(0, 0), 1);
        d.is("cut a spare one", x.cut(1), NONE);
        undo(x, "cut");
        d.is("spare again", x.told(1, 0), 2);
    }

    private static void sparesAreRestored() {
        ForestKeeper x = d.keeper(1, 0, 0, 0, 0, 0);
        d.join(x, 0, 1, 0, 2, 3, 0, 3, 4, 0, 1, 2, 0, 1, 0, 0, 4, 0, 0);
        d.is("cut", x.cut(3), 5);
        d.is("rises", x.count(8), 2);
        d.is("level", x.told(0, 3), 1);
        d.is("level", x.told(4, 3), 1);
        d.is("cut at level 1", x.cut(0), 4);
        undo(x, "cut");
        undo(x, "cut");
        d.is("rises", x.count(8), 0);
        int[] how = {1, 1, 1, 1, 2, 2};
        for (int e = 0; e < how.length; e++) {
            d.is("how " + e, x.told(e, 0), how[e]);
            d.is("level " + e, x.told(e, 3), 0);
        }
        d.is("cut once more", x.cut(3), 5);
        d.is("rises", x.count(8), 2);
    }

    private static void namesAreRestored() {
        ForestKeeper x = d.keeper(0, 0, 0, 0);
        d.join(x, 0, 1, 0, 1, 2, 0);
        d.is("root", x.root(1), 0);
        d.is("root", x.root(2), 1);
        d.is("root named before", x.root(1), 2);
        undo(x, "root");
        d.is("root", x.below(0, 0), 2);
        undo(x, "root");
        d.is("root", x.below(0, 0), 1);
        undo(x, "root");
        d.is("root", x.below(2, 0), 0);
    }
}
