/** Promises 28 to 30: THINGS in TRAYS, the host's refusals, STATUS. */
public final class TraysTest {
    private static final int MIN = Integer.MIN_VALUE, MAX = Integer.MAX_VALUE;
    private static final Due d = new Due();

    public static void main(String[] args) {
        putRefusals();
        putKeepsWhatWas();
        eachThingForEachUse();
        places();
        countingWeights();
        copying();
        numbersAlone();
        forgeRefusals();
        statusOfTheLatest();
        d.finish();
    }

    /** 3 - 0 - 1 - 2 and 4 alone; TRAY 0 nothing, 1 an EDGE, 2 KNOTS, 3 weights, 4 truths. */
    private static ForestKeeper sample() {
        ForestKeeper x = d.keeper(0, 0, 0, 0, 0, 0);
        d.join(x, 0, 1, 7, 1, 2, -7, 3, 0, 7);
        d.is("P28 edge", x.put(1, 1, 2, 99), 1);
        d.is("P28 knots", x.put(2, 2, 1, -99), 1);
        d.is("P28 weights", x.put(3, 3, 3, 2), 1);
        d.is("P28 truths", x.put(4, 4, 2, MAX), 1);
        return x;
    }

    private static void done(String call, ForestKeeper x, long got, long want) {
        d.is(call, got, want);
        d.is(call + ": status", x.status(), 0);
    }

    private static void refused(String call, ForestKeeper x, long got, int status) {
        d.is(call, got, -1);
        d.is(call + ": status", x.status(), status);
    }

    private static void putRefusals() {
        ForestKeeper x = sample();
        d.is("cut", x.cut(1), -1);
        for (int tray : new int[] {-1, 6, MIN, MAX}) {
            for (int what = 0; what <= 4; what++) {
                refused("P28 tray " + tray, x, x.put(tray, what, 0, 0), 1);
            }
        }
        for (int what : new int[] {-1, 5, MIN, MAX}) {
            refused("P28 what " + what, x, x.put(2, what, 0, 0), 1);
        }
        for (int k : new int[] {-1, 5, MIN, MAX}) {
            refused("P28 no edge", x, x.put(2, 1, k, 0), 1);
            refused("P28 no knot", x, x.put(2, 2, k, 0), 1);
            refused("P28 no knot", x, x.put(2, 3, k, 0), 1);
            refused("P28 no knot", x, x.put(2, 3, 0, k), 1);
            refused("P28 no knot", x, x.put(2, 4, k, 0), 1);
        }
        refused("P28 gone", x, x.put(2, 1, 1, 0), 1);
        refused("P28 apart", x, x.put(2, 3, 0, 2), 1);
        done("P28 what it held stays", x, x.forge(2, 1, 3), 3);
    }

    private static void putKeepsWhatWas() {
        ForestKeeper x = sample();
        d.is("undo", x.undo(), 1);
        d.is("another edge 2", x.edge(4, 2, 7), 2);
        done("P28 the edge as it was", x, x.forge(1, 0, 0), 3);
        done("P28 the knots as they were", x, x.forge(2, 1, 3), 3);
        done("P28 the weights as they were", x, x.forge(3, 6, 0), 3);
        done("P28 the truths as they were", x, x.forge(4, 3, 3), 1);
        done("P28 the truths as they were", x, x.forge(4, 3, 4), 0);
        d.is("knot", x.knot(0), 5);
        refused("P28 a knot that came later", x, x.forge(4, 3, 5), 12);
        done("P28 put anew", x, x.put(4, 4, 5, 0), 1);
        done("P28 truth", x, x.forge(4, 3, 5), 1);
        done("P28 truth", x, x.forge(4, 3, 0), 0);
        done("P28 nothing", x, x.put(4, 0, MIN, MAX), 1);
        refused("P28 nothing", x, x.forge(4, 3, 0), 10);
        done("P28 another thing", x, x.put(5, 2, 3, 0), 1);
        done("P28 only its part", x, x.forge(5, 1, 0), 3);
        refused("P28 only its part", x, x.forge(5, 1, 1), 12);
    }

    private static void eachThingForEachUse() {
        ForestKeeper x = sample();
        int[] use = {0, 1, 2, 3, 5};
        int[] fits = {1, 2, 3, 4, 2};
        for (int i = 0; i < use.length; i++) {
            for (int tray = 0; tray <= 5; tray++) {
                String call = "P29 forge(" + tray + ", " + use[i] + ", 1)";
                int got = x.forge(tray, use[i], 1);
                if (tray == 0 || tray == 5) {
                    refused(call, x, got, 10);
                } else if (tray != fits[i]) {
                    refused(call, x, got, 11);
                } else {
                    d.is(call + ": status", x.status(), 0);
                }
            }
        }
        done("P29 laid: nothing", x, x.forge(0, 6, 1), 0);
        refused("P29 laid: an edge", x, x.forge(1, 6, 1), 14);
        refused("P29 laid: knots", x, x.forge(2, 6, 1), 14);
        done("P29 laid: weights", x, x.forge(3, 6, -1), 3);
        refused("P29 laid: truths", x, x.forge(4, 6, 1), 14);
        // What a THING is comes ahead of where its places are.
        refused("P29 nothing ahead of outside", x, x.forge(0, 1, -1), 10);
        refused("P29 another kind ahead of outside", x, x.forge(3, 1, 99), 11);
        refused("P29 another kind ahead of outside", x, x.forge(3, 5, -1), 11);
        refused("P29 nothing ahead of outside", x, x.forge(0, 5, -1), 10);
    }

    private static void places() {
        ForestKeeper x = sample();
        done("P29 first knot", x, x.forge(1, 0, -100), 3);
        int[] knots = {0, 1, 2, 3};
        for (int i = 0; i < 4; i++) {
            done("P29 knot " + i, x, x.forge(2, 1, i), knots[i]);
        }
        int[] truths = {1, 1, 1, 1, 0};
        for (int i = 0; i < 5; i++) {
            done("P29 truth " + i, x, x.forge(4, 3, i), truths[i]);
        }
        for (int n : new int[] {-100, -1, 5, 100}) {
            refused("P29 no place", x, x.forge(2, 1, n), 12);
            refused("P29 no place", x, x.forge(4, 3, n), 12);
        }
        refused("P29 no place", x, x.forge(2, 1, 4), 12);
    }

    private static void countingWeights() {
        ForestKeeper x = sample();
        done("P29 how many 7", x, x.forge(3, 2, 7), 2);
        done("P29 how many -7", x, x.forge(3, 2, -7), 1);
        done("P29 how many 0", x, x.forge(3, 2, 0), 0);
        done("P28 a way of no edges", x, x.put(5, 3, 4, 4), 1);
        done("P29 none", x, x.forge(5, 2, 0), 0);
        done("P29 none", x, x.forge(5, 6, 0), 0);
        ForestKeeper y = d.keeper(0, 0, 0);
        d.is("edge", y.edge(0, 1, (1L << 32) + 5), 0);
        done("P28 put", y, y.put(0, 3, 1, 0), 1);
        done("P29 a long is no int", y, y.forge(0, 2, 5), 0);
    }

    private static void copying() {
        ForestKeeper x = sample();
        done("P29 copy 0", x, x.forge(2, 5, 0), 0);
        done("P29 copy 1", x, x.forge(2, 5, 1), 0);
        done("P29 copy 2", x, x.forge(2, 5, 2), 1);
        done("P29 copy 4", x, x.forge(2, 5, 4), 6);
        refused("P29 copy 5", x, x.forge(2, 5, 5), 12);
        refused("P29 copy -1", x, x.forge(2, 5, -1), 12);
        refused("P29 copy 100", x, x.forge(2, 5, 100), 12);
        done("P28 put one", x, x.put(2, 2, 4, 0), 1);
        done("P29 copy 1", x, x.forge(2, 5, 1), 4);
        refused("P29 copy more than it has", x, x.forge(2, 5, 2), 12);
        ForestKeeper y = d.keeper(0, 0, 0, 0, 0, 0, 0, 0, 0, 0);
        for (int i = 0; i < 8; i++) {
            d.is("edge", y.edge(i, i + 1, 0), i);
        }
        done("P28 put nine", y, y.put(0, 2, 4, 0), 1);
        done("P29 copy 4 to 4", y, y.forge(0, 5, 4), 6);
        refused("P29 copy 5 to 5", y, y.forge(0, 5, 5), 12);
        refused("P29 copy 8 to 8", y, y.forge(0, 5, 8), 12);
    }

    private static void numbersAlone() {
        ForestKeeper x = sample();
        for (int tray = 0; tray <= 5; tray++) {
            done("P29 a row", x, x.forge(tray, 4, 100), 100);
            done("P29 a row", x, x.forge(tray, 4, 0), 0);
            refused("P29 a row", x, x.forge(tray, 4, -1), 13);
            refused("P29 a row", x, x.forge(tray, 4, -100), 13);
            done("P29 divided", x, x.forge(tray, 7, 7), 142);
            done("P29 divided", x, x.forge(tray, 7, -3), -333);
            done("P29 divided", x, x.forge(tray, 7, -100), -10);
            refused("P29 divided", x, x.forge(tray, 7, 0), 15);
            refused("P29 thrown", x, x.forge(tray, 8, 1), 10);
        }
    }

    private static void forgeRefusals() {
        ForestKeeper x = sample();
        for (int what = 0; what <= 8; what++) {
            for (int tray : new int[] {-1, 6, MIN, MAX}) {
                refused("P29 tray " + tray, x, x.forge(tray, what, 1), 1);
            }
            for (int n : new int[] {-101, 101, MIN, MAX}) {
                refused("P29 n " + n, x, x.forge(what % 6, what, n), 1);
            }
        }
        for (int what : new int[] {-1, 9, MIN, MAX}) {
            refused("P29 what " + what, x, x.forge(1, what, 1), 1);
        }
    }

    private static void statusOfTheLatest() {
        ForestKeeper x = sample();
        d.is("P30 status", x.status(), 0);
        refused("P30 forge", x, x.forge(0, 7, 0), 15);
        d.is("knot refused elsewhere", x.value(77), ForestKeeper.NO);
        d.is("edge", x.edge(0, 4, 1), 3);
        d.is("undo", x.undo(), 1);
        d.is("P30 other calls leave it", x.status(), 15);
        d.is("P30 asking leaves it", x.status(), 15);
        done("P30 put", x, x.put(0, 0, 0, 0), 1);
        refused("P30 put", x, x.put(0, 9, 0, 0), 1);
        done("P30 forge", x, x.forge(0, 4, 3), 3);
    }
}
