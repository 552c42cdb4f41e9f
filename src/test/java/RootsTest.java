/** Promises 22 to 26: ROOTS, what is BELOW, and where KNOTS MEET. */
public final class RootsTest {
    private static final int NONE = ForestKeeper.NONE, BAD = ForestKeeper.BAD;
    private static final Due d = new Due();

    public static void main(String[] args) {
        naming();
        namingAcrossParts();
        belowEach();
        meeting();
        sumsBelow();
        noKnots();
        d.finish();
    }

    /** 3 - 1 - 2 with 0 at 2 and 4 at 1; 5 by itself. */
    private static ForestKeeper sample() {
        ForestKeeper x = d.keeper(0, 1, 10, 100, 1000, 10000, 100000);
        d.join(x, 3, 1, 0, 1, 2, 0, 0, 2, 0, 1, 4, 0);
        return x;
    }

    private static void naming() {
        ForestKeeper x = sample();
        d.is("P23 lowest number", x.below(4, 0), 0);
        d.is("P22 the root that was", x.root(4), 0);
        d.is("P23 root", x.below(0, 0), 4);
        d.is("P22 the root that was", x.root(3), 4);
        d.is("P22 named again", x.root(3), 3);
        d.is("P22 named before", x.root(4), 3);
        d.is("P23 root", x.below(2, 0), 4);
        d.is("P22 alone", x.root(5), 5);
        d.is("P22 changes", x.count(7), 9);
    }

    private static void namingAcrossParts() {
        ForestKeeper x = sample();
        d.is("P22 root", x.root(3), 0);
        d.is("P22 root", x.root(0), 3);
        d.is("P22 root", x.root(5), 5);
        d.is("P4 edge", x.edge(5, 4, 0), 4);
        d.is("P23 of both the one named last", x.below(1, 0), 5);
        d.is("P5 cut", x.cut(4), NONE);
        d.is("P23 named last of the rest", x.below(1, 0), 0);
        d.is("P5 cut", x.cut(1), NONE);
        d.is("P23 named before", x.below(4, 0), 3);
        d.is("P23 named last", x.below(2, 0), 0);
        d.is("P5 cut", x.cut(0), NONE);
        d.is("P23 none named: the lowest", x.below(4, 0), 1);
        d.is("P23 alone", x.below(3, 0), 3);
    }

    private static void belowEach() {
        ForestKeeper x = sample();
        int[] parent = {NONE, 2, 0, 1, 1, NONE};
        int[] depth = {0, 2, 1, 3, 3, 0};
        int[] many = {5, 3, 4, 1, 1, 1};
        for (int k = 0; k < 6; k++) {
            d.is("P23 parent of " + k, x.below(k, 1), parent[k]);
            d.is("P23 depth of " + k, x.below(k, 2), depth[k]);
            d.is("P23 below " + k, x.below(k, 3), many[k]);
        }
        int[] cutKnot = {0, 1, 1, 0, 0, 0};
        for (int k = 0; k < 6; k++) {
            d.is("P23 cut knot " + k, x.below(k, 4), cutKnot[k]);
        }
        d.is("P22 root", x.root(1), 0);
        int[] newParent = {2, NONE, 1, 1, 1, NONE};
        int[] newMany = {1, 5, 2, 1, 1, 1};
        for (int k = 0; k < 6; k++) {
            d.is("P23 parent of " + k, x.below(k, 1), newParent[k]);
            d.is("P23 below " + k, x.below(k, 3), newMany[k]);
        }
        for (int what : new int[] {-1, 5, Integer.MIN_VALUE, Integer.MAX_VALUE}) {
            d.is("P23 what", x.below(0, what), BAD);
        }
    }

    private static void meeting() {
        ForestKeeper x = sample();
        d.is("P24 meet", x.meet(3, 4), 1);
        d.is("P24 meet", x.meet(3, 2), 2);
        d.is("P24 meet", x.meet(2, 3), 2);
        d.is("P24 at the root", x.meet(4, 0), 0);
        d.is("P24 at the root", x.meet(0, 4), 0);
        d.is("P24 the second deeper", x.meet(1, 4), 1);
        d.is("P24 itself", x.meet(3, 3), 3);
        d.is("P24 alone", x.meet(5, 5), 5);
        d.is("P24 apart", x.meet(3, 5), NONE);
        d.is("P24 apart", x.meet(5, 3), NONE);
        d.is("P22 root", x.root(3), 0);
        d.is("P24 with another root", x.meet(0, 4), 1);
        d.is("P24 with another root", x.meet(3, 4), 3);
    }

    private static void sumsBelow() {
        ForestKeeper x = sample();
        long[] want = {11111, 11010, 11110, 1000, 10000, 100000};
        for (int k = 0; k < 6; k++) {
            d.is("P25 below " + k, x.sumBelow(k), want[k]);
        }
        d.is("P26 add below", x.addBelow(1, 5), 3);
        long[] values = {1, 15, 100, 1005, 10005, 100000};
        for (int k = 0; k < 6; k++) {
            d.is("P26 value " + k, x.value(k), values[k]);
        }
        d.is("P26 add below the root", x.addBelow(0, Long.MAX_VALUE), 5);
        d.is("P26 wraps", x.value(0), Long.MIN_VALUE);
        d.is("P26 changes", x.count(7), 6);
        d.is("P27 undo", x.undo(), 1);
        d.is("P27 undo", x.undo(), 1);
        for (int k = 0; k < 6; k++) {
            d.is("P27 below " + k, x.sumBelow(k), want[k]);
        }
        ForestKeeper y = d.keeper(0, Long.MAX_VALUE, 2);
        d.join(y, 0, 1, 0);
        d.is("P25 wraps", y.sumBelow(0), Long.MIN_VALUE + 1);
    }

    private static void noKnots() {
        ForestKeeper x = sample();
        for (int k : new int[] {-1, 6, 100, Integer.MIN_VALUE, Integer.MAX_VALUE}) {
            d.is("P22 bad", x.root(k), BAD);
            for (int what = -1; what <= 5; what++) {
                d.is("P23 bad", x.below(k, what), BAD);
            }
            d.is("P24 bad", x.meet(k, 0), BAD);
            d.is("P24 bad", x.meet(0, k), BAD);
            d.is("P24 bad", x.meet(k, k), BAD);
            d.is("P25 no", x.sumBelow(k), ForestKeeper.NO);
            d.is("P26 bad", x.addBelow(k, 1), BAD);
        }
        d.is("refusals are no changes", x.count(7), 4);
    }
}
