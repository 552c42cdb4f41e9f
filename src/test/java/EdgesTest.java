/** Promises 1 to 10: KNOTS, THE KIND, EDGES that come and go, and what is told of them. */
public final class EdgesTest {
    private static final int NONE = ForestKeeper.NONE, BAD = ForestKeeper.BAD;
    private static final int STATE = ForestKeeper.STATE, FULL = ForestKeeper.FULL;
    private static final int MIN = Integer.MIN_VALUE, MAX = Integer.MAX_VALUE;
    private static final Due d = new Due();

    public static void main(String[] args) {
        newObject();
        knots();
        kinds();
        edgeRefusals();
        edgesFull();
        plainForest();
        spareForest();
        levels();
        levelsTieTakesTheFirst();
        levelsRiseTwice();
        spanningForest();
        spanningTies();
        insteadChangesNothing();
        toldAndWeight();
        bridgesAndCutKnots();
        cutKnotsAtTheFirst();
        counts();
        totals();
        d.finish();
    }

    private static void newObject() {
        ForestKeeper x = new ForestKeeper();
        for (int what = 0; what <= 8; what++) {
            d.is("P1 count(" + what + ")", x.count(what), 0);
        }
        d.is("P1 total", x.total(), 0);
        d.is("P1 status", x.status(), 0);
        d.is("P1 undo", x.undo(), NONE);
        d.is("P1 kind was plain", x.kind(0), 0);
        d.is("P1 no knot", x.size(0), BAD);
        d.is("P1 no edge", x.told(0, 0), BAD);
        for (int tray = 0; tray <= 5; tray++) {
            d.is("P1 nothing in a tray", x.forge(tray, 6, 0), 0);
            d.is("P1 nothing in a tray", x.forge(tray, 0, 0), -1);
            d.is("P1 nothing in a tray", x.status(), 10);
        }
    }

    private static void knots() {
        ForestKeeper x = new ForestKeeper();
        for (int i = 0; i < 100; i++) {
            d.is("P2 knot " + i, x.knot(i * 3L), i);
        }
        d.is("P2 set", x.set(99, 5), 1);
        d.is("P2 knot 100", x.knot(7), FULL);
        d.is("P2 a refused knot leaves changes", x.count(7), 1);
        d.is("P2 count", x.count(0), 100);
        d.is("P2 value", x.value(98), 294);
        d.is("P2 undo after a refused knot", x.undo(), 1);
        d.is("P2 value", x.value(99), 297);
        ForestKeeper y = d.keeper(0, Long.MIN_VALUE, Long.MAX_VALUE);
        d.is("P2 least long", y.value(0), Long.MIN_VALUE);
        d.is("P2 greatest long", y.value(1), Long.MAX_VALUE);
    }

    private static void kinds() {
        ForestKeeper x = d.keeper(1, 0, 0);
        d.is("P3 kind", x.kind(2), 1);
        d.is("P3 kind again", x.kind(2), 2);
        for (int k : new int[] {-1, 3, MIN, MAX}) {
            d.is("P3 kind " + k, x.kind(k), BAD);
        }
        d.is("P3 edge", x.edge(0, 1, 1), 0);
        d.is("P3 kind with an edge", x.kind(2), STATE);
        d.is("P3 bad goes ahead", x.kind(3), BAD);
        d.is("P3 cut", x.cut(0), NONE);
        d.is("P3 kind with an edge that is gone", x.kind(1), STATE);
        d.is("P3 undo", x.undo(), 1);
        d.is("P3 kind", x.kind(1), STATE);
        d.is("P3 undo", x.undo(), 1);
        d.is("P3 kind after the edge was undone", x.kind(0), 2);
        d.is("P3 edge", x.edge(0, 1, 1), 0);
        d.is("P3 the forest is plain", x.edge(0, 1, 1), STATE);
    }

    private static void edgeRefusals() {
        ForestKeeper x = d.keeper(0, 0, 0, 0);
        int[] none = {-1, 3, 100, MIN, MAX};
        for (int k : none) {
            d.is("P4 edge(0, " + k + ")", x.edge(0, k, 1), BAD);
            d.is("P4 edge(" + k + ", 0)", x.edge(k, 0, 1), BAD);
            d.is("P4 edge(" + k + ", " + k + ")", x.edge(k, k, 1), BAD);
        }
        d.is("P4 a = b", x.edge(1, 1, 1), BAD);
        d.is("P4 refusals change nothing", x.count(1), 0);
        d.is("P4 refusals are no changes", x.count(7), 0);
        d.is("P4 edge", x.edge(0, 1, 1), 0);
        d.is("P4 together", x.edge(1, 0, 1), STATE);
        d.is("P4 edge", x.edge(2, 1, 1), 1);
        d.is("P4 together by two", x.edge(0, 2, 1), STATE);
        d.is("P4 count", x.count(1), 2);
        d.is("P4 changes", x.count(7), 2);
        for (int e : new int[] {-1, 2, MIN, MAX}) {
            d.is("P5 cut", x.cut(e), BAD);
            d.is("P6 instead", x.instead(e), BAD);
            d.is("P7 told", x.told(e, 0), BAD);
            d.is("P8 weight", x.weight(e), ForestKeeper.NO);
        }
        for (int what : new int[] {-1, 5, MIN, MAX}) {
            d.is("P7 told what", x.told(0, what), BAD);
        }
    }

    private static void edgesFull() {
        ForestKeeper x = d.keeper(0, 0, 0, 0);
        for (int i = 0; i < 300; i++) {
            d.is("P4 edge " + i, x.edge(0, 1, i), i);
            d.is("P5 cut " + i, x.cut(i), NONE);
        }
        d.is("P4 full counts those gone", x.edge(0, 1, 0), FULL);
        d.is("P4 bad ahead of full", x.edge(0, 0, 0), BAD);
        d.is("P4 bad ahead of full", x.edge(0, 3, 0), BAD);
        d.is("P4 undo the cut", x.undo(), 1);
        d.is("P4 full ahead of state", x.edge(0, 1, 0), FULL);
        d.is("P4 undo the edge", x.undo(), 1);
        d.is("P4 the number again", x.edge(1, 2, 77), 299);
        d.is("P4 its weight", x.weight(299), 77);
        d.is("P9 edges that came", x.count(1), 300);
    }

    private static void plainForest() {
        ForestKeeper x = d.keeper(0, 0, 0, 0, 0);
        d.join(x, 0, 1, 5, 1, 2, 6, 2, 3, 7);
        d.is("P6 instead", x.instead(1), NONE);
        d.is("P5 cut", x.cut(1), NONE);
        d.is("P5 gone", x.told(1, 0), 0);
        d.is("P5 cut again", x.cut(1), BAD);
        d.is("P6 instead of one gone", x.instead(1), BAD);
        d.is("P5 apart", x.together(0, 3), 0);
        d.is("P5 parts", x.count(4), 2);
        d.is("P4 may come again", x.edge(3, 0, 1), 3);
        d.is("P4 together", x.together(1, 2), 1);
        d.is("P9 levels never rise", x.count(8), 0);
    }

    private static void spareForest() {
        ForestKeeper x = d.keeper(1, 0, 0, 0);
        d.join(x, 0, 1, 9, 1, 2, 9, 0, 2, 1, 0, 1, 1);
        d.is("P4 spare though lighter", x.told(2, 0), 2);
        d.is("P4 spare beside", x.told(3, 0), 2);
        d.is("P6 instead of a spare one", x.instead(2), NONE);
        d.is("P5 a spare one goes", x.cut(2), NONE);
        d.is("P5 nothing else", x.count(2), 2);
        d.is("P5 nothing rose", x.count(8), 0);
        d.is("P6 instead", x.instead(0), 3);
        d.is("P5 cut", x.cut(0), 3);
        d.is("P5 tree", x.told(3, 0), 1);
        d.is("P6 none", x.instead(1), NONE);
        d.is("P5 none", x.cut(1), NONE);
    }

    /** The SMALLER's TREE edges and inner SPARE ones rise, up to the one that is taken. */
    private static void levels() {
        ForestKeeper x = d.keeper(1, 0, 0, 0, 0, 0, 0, 0);
        // A side of three (0 1 2) and one of four (3 4 5 6), joined by edge 5.
        d.join(x, 0, 1, 0, 1, 2, 0, 3, 4, 0, 4, 5, 0, 5, 6, 0, 3, 2, 0,
                0, 2, 0, 3, 5, 0, 6, 0, 0, 2, 0, 0);
        d.is("P9 spare", x.count(3), 4);
        d.is("P6 instead", x.instead(5), 8);
        d.is("P5 cut", x.cut(5), 8);
        int[] level = {1, 1, 0, 0, 0, 0, 1, 0, 0, 0};
        for (int e = 0; e < level.length; e++) {
            d.is("P7 level of " + e, x.told(e, 3), level[e]);
        }
        d.is("P9 rises", x.count(8), 3);
        // Now at LEVEL 1 first: edge 0 has the sides {0} and {1 2}; edge 6 joins them.
        d.is("P6 instead", x.instead(0), 6);
        d.is("P5 cut", x.cut(0), 6);
        d.is("P7 its level stays", x.told(6, 3), 1);
        d.is("P7 gone ones keep theirs", x.told(0, 3), 1);
        d.is("P9 rises", x.count(8), 3);
        // From LEVEL 1 down to 0: {2} or {0}: the first one's KNOT 0 with what LEVEL 0 has.
        d.is("P6 instead", x.instead(6), 9);
        d.is("P5 cut", x.cut(6), 9);
        d.is("P7 level", x.told(9, 3), 0);
    }

    private static void levelsTieTakesTheFirst() {
        for (int turned = 0; turned < 2; turned++) {
            ForestKeeper x = d.keeper(1, 0, 0, 0, 0);
            d.join(x, 0, 1, 0, 2, 3, 0, turned == 0 ? 1 : 2, turned == 0 ? 2 : 1, 0, 3, 0, 0);
            d.is("P5 cut", x.cut(2), 3);
            d.is("P5 the first one's side", x.told(0, 3), turned == 0 ? 1 : 0);
            d.is("P5 the second one's side", x.told(1, 3), turned == 0 ? 0 : 1);
        }
    }

    private static void levelsRiseTwice() {
        ForestKeeper x = d.keeper(1, 0, 0, 0, 0, 0, 0, 0, 0);
        // A row 0 .. 7; its half 0 .. 3 rises to LEVEL 1, then the half of that to LEVEL 2.
        d.join(x, 0, 1, 0, 1, 2, 0, 2, 3, 0, 4, 5, 0, 5, 6, 0, 6, 7, 0, 3, 4, 0);
        d.is("P5 cut the middle", x.cut(6), NONE);
        d.is("P9 rises", x.count(8), 3);
        d.is("P5 cut its middle", x.cut(1), NONE);
        // At LEVEL 1 the tie takes {0 1}: edge 0 rises to 2. At LEVEL 0 nothing is left.
        d.is("P7 level", x.told(0, 3), 2);
        d.is("P7 level", x.told(2, 3), 1);
        d.is("P9 rises", x.count(8), 4);
        d.is("P27 undo", x.undo(), 1);
        d.is("P9 rises that are undone did not", x.count(8), 3);
        d.is("P27 level", x.told(0, 3), 1);
        d.is("P27 undo", x.undo(), 1);
        d.is("P9 rises", x.count(8), 0);
        d.is("P27 level", x.told(0, 3), 0);
    }

    private static void spanningForest() {
        ForestKeeper x = d.keeper(2, 0, 0, 0, 0);
        d.join(x, 0, 1, 10, 1, 2, 30, 2, 3, 20, 3, 0, 25);
        d.is("P4 the heaviest becomes spare", x.told(1, 0), 2);
        d.is("P4 the new one is tree", x.told(3, 0), 1);
        d.is("P4 heavier than all", x.edge(0, 2, 26), 4);
        d.is("P4 is spare", x.told(4, 0), 2);
        d.is("P6 the lightest", x.instead(2), 4);
        d.is("P6 the lightest", x.instead(3), 4);
        d.is("P6 the only one", x.instead(0), 1);
        d.is("P5 cut", x.cut(2), 4);
        d.is("P10 total", x.total(), 10 + 25 + 26);
        d.is("P5 cut", x.cut(4), 1);
        d.is("P10 total", x.total(), 10 + 25 + 30);
        d.is("P5 cut", x.cut(3), NONE);
        d.is("P9 levels never rise", x.count(8), 0);
    }

    private static void spanningTies() {
        ForestKeeper x = d.keeper(2, 0, 0, 0);
        d.join(x, 0, 1, 7, 1, 2, 7, 0, 2, 7, 2, 0, 6, 0, 2, 7);
        d.is("P4 of equal weight the later is heavier", x.told(2, 0), 2);
        d.is("P4 of equal ones the later goes", x.told(1, 0), 2);
        d.is("P4 the first stays", x.told(0, 0), 1);
        d.is("P4 lighter", x.told(3, 0), 1);
        d.is("P6 of equal ones the lowest number", x.instead(0), 1);
        d.is("P5 cut", x.cut(3), 1);
        d.is("P5 cut", x.cut(1), 2);
        d.is("P5 cut", x.cut(2), 4);
    }

    private static void insteadChangesNothing() {
        ForestKeeper x = d.keeper(1, 0, 0, 0, 0);
        d.join(x, 0, 1, 0, 1, 2, 0, 2, 3, 0, 3, 0, 0);
        d.is("P6 instead", x.instead(1), 3);
        d.is("P6 nothing rose", x.count(8), 0);
        d.is("P6 level", x.told(0, 3), 0);
        d.is("P6 tree", x.told(1, 0), 1);
        d.is("P6 spare", x.told(3, 0), 2);
        d.is("P6 no change", x.count(7), 4);
    }

    private static void toldAndWeight() {
        ForestKeeper x = d.keeper(1, 0, 0, 0);
        d.is("P4 edge", x.edge(2, 0, Long.MIN_VALUE), 0);
        d.is("P4 edge", x.edge(0, 2, Long.MAX_VALUE), 1);
        d.is("P7 first", x.told(0, 1), 2);
        d.is("P7 second", x.told(0, 2), 0);
        d.is("P7 level", x.told(0, 3), 0);
        d.is("P7 no bridge", x.told(0, 4), 0);
        d.is("P7 no bridge", x.told(1, 4), 0);
        d.is("P8 weight", x.weight(0), Long.MIN_VALUE);
        d.is("P8 weight", x.weight(1), Long.MAX_VALUE);
        d.is("P5 cut", x.cut(0), 1);
        d.is("P7 gone", x.told(0, 0), 0);
        d.is("P7 gone: first", x.told(0, 1), 2);
        d.is("P7 gone: second", x.told(0, 2), 0);
        d.is("P7 gone: no bridge", x.told(0, 4), 0);
        d.is("P7 bridge", x.told(1, 4), 1);
        d.is("P8 gone: weight", x.weight(0), Long.MIN_VALUE);
    }

    private static void bridgesAndCutKnots() {
        ForestKeeper x = d.keeper(1, 0, 0, 0, 0, 0, 0, 0, 0);
        // Two rings (0 1 2 and 3 4 5) with a bridge 2 - 3, a leaf 6 at 5, and 7 alone.
        d.join(x, 0, 1, 0, 1, 2, 0, 2, 0, 0, 3, 4, 0, 4, 5, 0, 5, 3, 0, 2, 3, 0, 6, 5, 0);
        int[] bridge = {0, 0, 0, 0, 0, 0, 1, 1};
        int[] cutKnot = {0, 0, 1, 1, 0, 1, 0, 0};
        for (int i = 0; i < 8; i++) {
            d.is("P7 bridge " + i, x.told(i, 4), bridge[i]);
            d.is("P23 cut knot " + i, x.below(i, 4), cutKnot[i]);
        }
        d.is("P9 bridges", x.count(5), 2);
        d.is("P9 cut knots", x.count(6), 3);
        d.is("P4 one beside the bridge", x.edge(3, 2, 0), 8);
        d.is("P9 bridges", x.count(5), 1);
        d.is("P9 cut knots", x.count(6), 3);
        d.is("P5 cut", x.cut(2), NONE);
        d.is("P9 bridges", x.count(5), 3);
        d.is("P9 cut knots", x.count(6), 4);
    }

    /** KNOT 0 is where a walk over the EDGES begins: it must be told like any other one. */
    private static void cutKnotsAtTheFirst() {
        ForestKeeper x = d.keeper(1, 0, 0, 0, 0);
        d.join(x, 0, 1, 0, 0, 2, 0);
        d.is("P9 cut knots", x.count(6), 1);
        d.is("P23 the middle of a row", x.below(0, 4), 1);
        d.is("P9 bridges", x.count(5), 2);
        d.is("P4 a ring", x.edge(1, 2, 0), 2);
        d.is("P9 cut knots", x.count(6), 0);
        d.is("P23 in a ring", x.below(0, 4), 0);
        d.is("P4 a leaf", x.edge(3, 0, 0), 3);
        d.is("P9 cut knots", x.count(6), 1);
        d.is("P9 bridges", x.count(5), 1);
        d.is("P5 the ring opens", x.cut(0), 2);
        d.is("P9 bridges", x.count(5), 3);
        d.is("P9 cut knots", x.count(6), 2);
    }

    private static void counts() {
        ForestKeeper x = d.keeper(1, 0, 0, 0, 0, 0);
        d.join(x, 0, 1, 0, 1, 2, 0, 0, 2, 0, 3, 4, 0);
        int[] want = {5, 4, 3, 1, 2, 1, 0, 4, 0};
        for (int what = 0; what < want.length; what++) {
            d.is("P9 count(" + what + ")", x.count(what), want[what]);
        }
        for (int what : new int[] {-1, 9, MIN, MAX}) {
            d.is("P9 count(" + what + ")", x.count(what), BAD);
        }
        d.is("P5 cut", x.cut(3), NONE);
        d.is("P9 gone ones came", x.count(1), 4);
        d.is("P9 tree", x.count(2), 2);
        d.is("P9 parts", x.count(4), 3);
        d.is("P9 changes", x.count(7), 5);
    }

    private static void totals() {
        ForestKeeper x = d.keeper(1, 0, 0, 0);
        d.is("P4 edge", x.edge(0, 1, Long.MAX_VALUE), 0);
        d.is("P4 edge", x.edge(0, 1, 1000), 1);
        d.is("P10 without spare ones", x.total(), Long.MAX_VALUE);
        d.is("P4 edge", x.edge(1, 2, 2), 2);
        d.is("P10 wraps", x.total(), Long.MIN_VALUE + 1);
        d.is("P5 cut", x.cut(0), 1);
        d.is("P10 without those gone", x.total(), 1002);
    }
}
