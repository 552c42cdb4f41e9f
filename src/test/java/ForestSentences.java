/** The Terms' parts 1 to 3: the forest and its kinds, ROOTS, BRIDGES and CUT KNOTS. */
final class ForestSentences {
    private static final int NONE = ForestKeeper.NONE, STATE = ForestKeeper.STATE;
    private static final int GONE = 0, TREE = 1, SPARE = 2;
    private static final long MIN = Long.MIN_VALUE, MAX = Long.MAX_VALUE;

    static void all(Words w) {
        noRings(w);
        eachWithItself(w);
        parts(w);
        bothEndsOfAWay(w);
        heavierByWeight(w);
        heavierByNumber(w);
        plain(w);
        sparing(w);
        spanning(w);
        spanningAtTheEndsOfLong(w);
        spareOneGoes(w);
        plainGoes(w);
        lightestComesIn(w);
        downToLevelZero(w);
        sidesByLevel(w);
        fewerOfBoth(w);
        ofAsManyTheFirst(w);
        treesRise(w);
        levelsAtTheLimit(w);
        manyRises(w);
        sparesRiseByNumbers(w);
        sparesRiseThoughNoneIsTaken(w);
        takenOneKeepsItsLevel(w);
        neitherCannotBe(w);
        namedLast(w);
        lowestNumber(w);
        rootHasNoParent(w);
        depth(w);
        belowItself(w);
        firstOfBothWays(w);
        bridges(w);
        cutKnots(w);
    }

    private static void levels(Words w, ForestKeeper x, int... levels) {
        for (int e = 0; e < levels.length; e++) {
            w.is("level of edge " + e, x.told(e, 3), levels[e]);
        }
    }

    private static void hows(Words w, ForestKeeper x, int... hows) {
        for (int e = 0; e < hows.length; e++) {
            w.is("how edge " + e + " is", x.told(e, 0), hows[e]);
        }
    }

    private static void noRings(Words w) {
        w.of(0, "THE FOREST: of the EDGES that are there some are TREE, the others SPARE;"
                + " TREE ones never close a ring.");
        for (int kind = 1; kind <= 2; kind++) {
            ForestKeeper x = w.keeper(kind, 0, 0, 0);
            w.join(x, 0, 1, 5, 1, 0, 4, 0, 1, 3, 1, 2, 2, 2, 0, 1);
            w.is("tree edges", x.count(2), 2);
            w.is("spare edges", x.count(3), 3);
            w.is("the way", x.way(0, 1), kind == 1 ? 1 : 2);
            for (int e = 0; e < 5; e++) {
                w.is("cut " + e + " goes", x.cut(e) == ForestKeeper.BAD ? 1 : 0, 0);
                w.is("all that are there are of one sort", x.count(2) + x.count(3), 4 - e);
                w.is("no ring", x.count(2), 3 - partsByMembers(x));
            }
        }
    }

    private static int partsByMembers(ForestKeeper x) {
        int parts = 0;
        for (int k = 0; k < x.count(0); k++) {
            parts += x.member(k, 0) == k ? 1 : 0;
        }
        return parts;
    }

    private static void eachWithItself(Words w) {
        w.of(0, "Two KNOTS are TOGETHER if TREE edges lead from one to the other (each with itself);");
        ForestKeeper x = w.keeper(1, 0, 0, 0, 0);
        w.join(x, 0, 1, 0, 1, 2, 0);
        w.is("one without edges with itself", x.together(3, 3), 1);
        w.is("one with edges with itself", x.together(1, 1), 1);
        w.is("by one edge", x.together(1, 0), 1);
        w.is("by two edges", x.together(0, 2), 1);
        w.is("by none", x.together(0, 3), 0);
        w.is("cut", x.cut(0), NONE);
        w.is("not by one that is gone", x.together(0, 1), 0);
    }

    private static void parts(Words w) {
        w.of(0, "a PART is all KNOTS that are TOGETHER;");
        w.is("no knots, no parts", new ForestKeeper().count(4), 0);
        ForestKeeper x = w.keeper(0, 0, 0, 0);
        w.is("each by itself", x.count(4), 3);
        w.is("of one", x.size(2), 1);
        w.join(x, 0, 2, 0, 2, 1, 0);
        w.is("all in one", x.count(4), 1);
        w.is("of all", x.size(2), 3);
    }

    private static void bothEndsOfAWay(Words w) {
        w.of(0, "the WAY of two that are is the KNOTS and TREE edges from the first to the second one,"
                + " both with it.");
        ForestKeeper x = w.keeper(1, 1, 20, 300);
        w.join(x, 0, 1, 0, 1, 2, 0, 2, 0, 0);
        w.is("edges, the spare one not", x.way(0, 2), 2);
        w.is("the first knot", x.between(0, 2, 0), 0);
        w.is("the second knot", x.between(0, 2, 2), 2);
        w.is("none behind it", x.between(0, 2, 3), NONE);
        w.is("from the other end", x.between(2, 0, 0), 2);
        w.is("values of both", x.sum(0, 2), 321);
        w.is("of neighbours", x.sum(0, 1), 21);
        w.is("of one with itself", x.sum(1, 1), 20);
        w.is("no edges of one with itself", x.way(1, 1), 0);
    }

    private static void heavierByWeight(Words w) {
        w.of(0, "An EDGE is HEAVIER than another one by weight,");
        ForestKeeper x = w.keeper(0, 0, 0, 0, 0, 0);
        w.is("edge", x.edge(0, 1, MAX), 0);
        w.is("edge", x.edge(1, 2, MIN), 1);
        w.is("edge", x.edge(2, 3, -1), 2);
        w.is("edge", x.edge(3, 4, MAX - 1), 3);
        w.is("the ends of long", x.heaviest(0, 2), 0);
        w.is("the ends of long, turned", x.heaviest(2, 0), 0);
        w.is("below 0", x.heaviest(1, 3), 2);
        w.is("less by one", x.heaviest(0, 4), 0);
        w.is("far apart", x.heaviest(1, 4), 3);
    }

    private static void heavierByNumber(Words w) {
        w.of(0, "of equal weights by number.");
        ForestKeeper x = w.keeper(0, 0, 0, 0, 0);
        w.is("edge", x.edge(2, 3, MIN), 0);
        w.is("edge", x.edge(0, 1, MIN), 1);
        w.is("edge", x.edge(1, 2, MIN), 2);
        w.is("of three", x.heaviest(0, 3), 2);
        w.is("of three, turned", x.heaviest(3, 0), 2);
        w.is("of two", x.heaviest(0, 2), 2);
        w.is("of two, turned", x.heaviest(3, 1), 2);
    }

    private static void plain(Words w) {
        w.of(0, "THE KIND of the forest: 0 PLAIN: an EDGE that comes is TREE;"
                + " one whose KNOTS are TOGETHER is refused (STATE).");
        ForestKeeper x = w.keeper(0, 0, 0, 0);
        w.join(x, 0, 1, 9, 1, 2, 9);
        hows(w, x, TREE, TREE);
        w.is("side by side", x.edge(1, 0, 1), STATE);
        w.is("a ring", x.edge(2, 0, 1), STATE);
        w.is("none is spare", x.count(3), 0);
        w.is("cut", x.cut(0), NONE);
        w.is("apart again", x.edge(2, 0, 1), 2);
        hows(w, x, GONE, TREE, TREE);
    }

    private static void sparing(Words w) {
        w.of(0, "1 SPARE: one whose KNOTS are TOGETHER is SPARE.");
        ForestKeeper x = w.keeper(1, 0, 0, 0);
        w.join(x, 0, 1, 9, 1, 2, 9, 0, 2, -9, 1, 0, -9);
        hows(w, x, TREE, TREE, SPARE, SPARE);
    }

    private static void spanning(Words w) {
        w.of(0, "2 SPANNING: one whose KNOTS are TOGETHER: if the HEAVIEST EDGE of their WAY is HEAVIER"
                + " than it, that one becomes SPARE and it TREE; else it is SPARE.");
        for (int weight = 6; weight <= 8; weight++) {
            ForestKeeper x = w.keeper(2, 0, 0, 0, 0);
            // The HEAVIEST of all is not on the WAY from 0 to 2.
            w.join(x, 0, 1, 5, 1, 2, 7, 2, 3, 99, 2, 0, weight);
            hows(w, x, TREE, weight < 7 ? SPARE : TREE, TREE, weight < 7 ? TREE : SPARE);
            w.is("total", x.total(), 5 + 99 + Math.min(weight, 7));
        }
    }

    private static void spanningAtTheEndsOfLong(Words w) {
        w.of(0, "if the HEAVIEST EDGE of their WAY is HEAVIER");
        ForestKeeper x = w.keeper(2, 0, 0);
        w.is("edge", x.edge(0, 1, MAX), 0);
        w.is("the greatest again", x.edge(0, 1, MAX), 1);
        hows(w, x, TREE, SPARE);
        w.is("the least", x.edge(0, 1, MIN), 2);
        hows(w, x, SPARE, SPARE, TREE);
        w.is("the least again", x.edge(0, 1, MIN), 3);
        w.is("the greatest", x.edge(0, 1, MAX), 4);
        hows(w, x, SPARE, SPARE, TREE, SPARE, SPARE);
    }

    private static void spareOneGoes(Words w) {
        w.of(0, "A SPARE edge that goes changes nothing else.");
        for (int kind = 1; kind <= 2; kind++) {
            ForestKeeper x = w.keeper(kind, 0, 0, 0);
            w.join(x, 0, 1, 1, 1, 2, 2, 2, 0, 3, 0, 1, 4, 1, 2, 5);
            w.is("cut", x.cut(3), NONE);
            hows(w, x, TREE, TREE, SPARE, GONE, SPARE);
            levels(w, x, 0, 0, 0, 0, 0);
            w.is("rises", x.count(8), 0);
        }
    }

    private static void plainGoes(Words w) {
        w.of(0, "WHEN a TREE edge goes, in a PLAIN forest nothing comes in.");
        ForestKeeper x = w.keeper(0, 0, 0, 0);
        w.join(x, 0, 1, 1, 1, 2, 2);
        w.is("cut", x.cut(0), NONE);
        hows(w, x, GONE, TREE);
        w.is("rises", x.count(8), 0);
    }

    private static void lightestComesIn(Words w) {
        w.of(0, "In a SPANNING one, of the SPARE ones that join both sides the lightest one becomes TREE.");
        ForestKeeper x = w.keeper(2, 0, 0, 0, 0, 0, 0);
        // 3 is cut off {0 1 2}: edge 3 lies in one side, edges 8 and 9 in another PART.
        w.join(x, 0, 1, 1, 1, 2, 1, 2, 3, 1, 0, 1, 5, 0, 3, 9, 1, 3, 8, 3, 1, 8, 4, 5, 1, 4, 5, 2, 5, 4, 2);
        w.is("instead", x.instead(2), 5);
        w.is("of equal ones the lower number", x.cut(2), 5);
        w.is("then the other one", x.cut(5), 6);
        w.is("then the heavier one", x.cut(6), 4);
        w.is("then none", x.cut(4), NONE);
        w.is("in one side it stayed spare", x.told(3, 0), SPARE);
        ForestKeeper y = w.keeper(2, 0, 0);
        w.is("edge", y.edge(0, 1, MIN), 0);
        w.is("edge", y.edge(0, 1, MAX), 1);
        w.is("edge", y.edge(0, 1, MIN + 1), 2);
        w.is("at the ends of long", y.cut(0), 2);
        ForestKeeper z = w.keeper(2, 0, 0);
        w.join(z, 0, 1, 9, 1, 0, 1);
        w.is("the first of all comes back", z.cut(1), 0);
    }

    /** {0 1 2} is of LEVEL 1; at LEVEL 0, 3 4 5 hang at 0 and 6 at 2; edge 7 joins 6 and 5. */
    private static ForestKeeper twoLevels(Words w) {
        ForestKeeper x = w.keeper(1, 0, 0, 0, 0, 0, 0, 0);
        w.join(x, 0, 1, 0, 1, 2, 0, 3, 4, 0, 4, 5, 0, 2, 3, 0);
        w.is("cut", x.cut(4), NONE);
        levels(w, x, 1, 1, 0, 0, 0);
        w.is("edge", x.edge(0, 3, 0), 5);
        w.is("edge", x.edge(2, 6, 0), 6);
        w.is("edge", x.edge(6, 5, 0), 7);
        return x;
    }

    private static void downToLevelZero(Words w) {
        w.of(0, "In a SPARE one, for i from the LEVEL of the one that went down to 0:");
        ForestKeeper x = twoLevels(w);
        w.is("instead", x.instead(0), 7);
        w.is("one of level 1 goes, one of level 0 comes in", x.cut(0), 7);
        w.is("its level", x.told(7, 3), 0);
        ForestKeeper y = twoLevels(w);
        w.is("one of level 0 goes", y.cut(5), 7);
        // Only LEVEL 0 is gone through, with 3 4 5 as THE SMALLER.
        levels(w, y, 1, 1, 1, 1, 0, 0, 0, 0);
    }

    /** At LEVEL 1 the first one's side is smaller, at LEVEL 0 the second one's. */
    private static void sidesByLevel(Words w) {
        w.of(0, "THE SMALLER of both sides is taken: the KNOTS to which TREE edges of LEVEL i and more lead"
                + " from its first KNOT, and those from its second one;");
        ForestKeeper x = twoLevels(w);
        w.is("cut", x.cut(0), 7);
        levels(w, x, 1, 1, 0, 0, 0, 0, 1, 0);
        w.is("rises", x.count(8), 3);
        ForestKeeper y = twoLevels(w);
        w.is("one beside edge 0, of level 0", y.edge(1, 0, 0), 8);
        w.is("of those of level 0 the lower number", y.cut(0), 7);
    }

    private static void fewerOfBoth(Words w) {
        w.of(0, "the fewer of both,");
        for (int turned = 0; turned <= 1; turned++) {
            ForestKeeper x = w.keeper(1, 0, 0, 0, 0, 0);
            // {0 1 2} has one KNOT more than {3 4}.
            w.join(x, 0, 1, 0, 1, 2, 0, 3, 4, 0, 2 + turned, 3 - turned, 0, 0, 4, 0);
            w.is("cut", x.cut(3), 4);
            levels(w, x, 0, 0, 1, 0, 0);
        }
        ForestKeeper y = w.keeper(1, 0, 0, 0);
        w.join(y, 0, 1, 0, 1, 2, 0);
        w.is("a side of one", y.cut(0), NONE);
        w.is("has nothing that rises", y.count(8), 0);
    }

    private static void ofAsManyTheFirst(Words w) {
        w.of(0, "of as many the first one's.");
        for (int turned = 0; turned <= 1; turned++) {
            ForestKeeper x = w.keeper(1, 0, 0, 0, 0);
            w.join(x, 0, 1, 0, 2, 3, 0, 1 + turned, 2 - turned, 0, 3, 0, 0);
            w.is("cut", x.cut(2), 3);
            levels(w, x, 1 - turned, turned, 0, 0);
        }
    }

    /** THE SMALLER has TREE edges of LEVELS 0 and 1: only those of LEVEL 0 rise. */
    private static void treesRise(Words w) {
        w.of(0, "All TREE edges of LEVEL i between KNOTS of THE SMALLER get LEVEL i + 1;");
        ForestKeeper x = w.keeper(1, 0, 0, 0, 0, 0, 0, 0);
        w.join(x, 0, 1, 0, 2, 3, 0, 1, 2, 0);
        w.is("cut", x.cut(2), NONE);
        levels(w, x, 1, 0, 0);
        w.is("edge", x.edge(1, 4, 0), 3);
        w.is("edge", x.edge(2, 5, 0), 4);
        w.is("edge", x.edge(3, 6, 0), 5);
        w.is("edge", x.edge(4, 2, 0), 6);
        w.is("{0 1 4} and {2 3 5 6}", x.cut(6), NONE);
        levels(w, x, 1, 0, 0, 1, 0, 0, 0);
        w.is("rises", x.count(8), 2);
    }

    /** A row of all 100 KNOTS is halved till nothing can rise: no LEVEL goes beyond 5. */
    private static void levelsAtTheLimit(Words w) {
        w.of(0, "get LEVEL i + 1");
        ForestKeeper x = w.keeper(1, new long[100]);
        for (int e = 0; e < 99; e++) {
            w.is("edge", x.edge(e, e + 1, 0), e);
        }
        int[] middles = {49, 24, 11, 5, 2, 0, 1};
        int[] rises = {49, 73, 84, 89, 91, 91, 91};
        for (int i = 0; i < middles.length; i++) {
            w.is("cut " + middles[i], x.cut(middles[i]), NONE);
            w.is("rises", x.count(8), rises[i]);
        }
        levels(w, x, 5, 5, 4, 4, 4, 3, 3, 3, 3, 3, 3, 2);
        for (int i = middles.length - 1; i >= 0; i--) {
            w.is("undo", x.undo(), 1);
            w.is("rises", x.count(8), i == 0 ? 0 : rises[i - 1]);
        }
        levels(w, x, 0, 0, 0, 0);
    }

    /** A row of 64 KNOTS, with 237 SPARE ones at its end, is halved five times. */
    private static void manyRises(Words w) {
        w.of(0, "one with both in it gets LEVEL i + 1;");
        ForestKeeper x = w.keeper(1, new long[64]);
        for (int e = 0; e < 300; e++) {
            int k = e < 63 ? e : 0;
            w.is("edge", x.edge(k, k + 1, 0), e);
        }
        int[] middles = {31, 15, 7, 3, 1};
        int[] rises = {268, 520, 764, 1004, 1242};
        for (int i = 0; i < middles.length; i++) {
            w.is("cut", x.cut(middles[i]), NONE);
            w.is("rises", x.count(8), rises[i]);
        }
        levels(w, x, 5, 4, 4, 3);
        w.is("the first spare one", x.told(63, 3), 5);
        w.is("the last spare one", x.told(299, 3), 5);
        w.is("the lowest number comes in", x.cut(0), 63);
        w.is("rises", x.count(8), 1242);
        w.is("undo", x.undo(), 1);
        for (int i = middles.length - 1; i >= 0; i--) {
            w.is("undo", x.undo(), 1);
            w.is("rises", x.count(8), i == 0 ? 0 : rises[i - 1]);
        }
        levels(w, x, 0, 0, 0, 0);
        w.is("the last spare one", x.told(299, 3), 0);
    }

    /** {0 1 2} and {3 4 5}, with SPARE ones in both and between them. */
    private static void sparesRiseByNumbers(Words w) {
        w.of(0, "then its SPARE ones of LEVEL i, with one or both KNOTS in THE SMALLER, by numbers:");
        ForestKeeper x = w.keeper(1, 0, 0, 0, 0, 0, 0);
        w.join(x, 0, 1, 0, 1, 2, 0, 3, 4, 0, 4, 5, 0, 2, 3, 0,
                3, 5, 0, 0, 2, 0, 5, 0, 0, 2, 0, 0, 1, 4, 0);
        w.is("instead", x.instead(4), 7);
        w.is("the first one that joins", x.cut(4), 7);
        w.is("one ahead of it rose, one behind it did not; none in the other side did", x.count(8), 3);
        levels(w, x, 1, 1, 0, 0, 0, 0, 1, 0, 0, 0);
    }

    private static void sparesRiseThoughNoneIsTaken(Words w) {
        w.of(0, "one with both in it gets LEVEL i + 1;");
        ForestKeeper x = w.keeper(1, 0, 0, 0, 0, 0, 0);
        w.join(x, 0, 1, 0, 1, 2, 0, 3, 4, 0, 4, 5, 0, 2, 3, 0, 0, 2, 0, 3, 5, 0, 2, 1, 0);
        w.is("none joins", x.cut(4), NONE);
        levels(w, x, 1, 1, 0, 0, 0, 1, 0, 1);
        w.is("rises", x.count(8), 4);
        // Now at LEVEL 1: {0} and {1 2}; edge 5 joins them.
        w.is("cut", x.cut(0), 5);
        w.is("nothing rose", x.count(8), 4);
        // {1} and {0 2}; edge 7 lies beside edge 1.
        w.is("cut", x.cut(1), 7);
        levels(w, x, 1, 1, 0, 0, 0, 1, 0, 1);
    }

    private static void takenOneKeepsItsLevel(Words w) {
        w.of(0, "one with one of them in the other side becomes TREE (its LEVEL stays), and all is done.");
        ForestKeeper x = w.keeper(1, 0, 0, 0, 0);
        w.join(x, 0, 1, 0, 2, 3, 0, 1, 2, 0, 0, 3, 0, 3, 0, 0);
        w.is("cut", x.cut(2), 3);
        hows(w, x, TREE, TREE, GONE, TREE, SPARE);
        levels(w, x, 1, 0, 0, 0, 0);
        // The one that came in is of LEVEL 0: only that is gone through when it goes.
        w.is("cut", x.cut(3), 4);
        hows(w, x, TREE, TREE, GONE, GONE, TREE);
        levels(w, x, 1, 0, 0, 0, 0);
        w.is("rises", x.count(8), 1);
    }

    /** It can't be, since each SPARE one's KNOTS are joined by TREE ones of its LEVEL and more. */
    private static void neitherCannotBe(Words w) {
        w.of(0, "(One whose other KNOT is in neither can't be.)");
        for (int run = 1; run <= 12; run++) {
            ForestKeeper x = w.keeper(1, new long[12]);
            for (int i = 0; i < 40; i++) {
                int a = i * run * 7 % 12;
                w.is("edge", x.edge(a, (a + 1 + i * i % 11) % 12, 0), i);
            }
            for (int i = 0; i < 20; i++) {
                int e = i * 11 % 40;
                int heir = x.instead(e);
                w.is("cut", x.cut(e), heir);
            }
            int[][] told = toldOfAll(x);
            for (int e = 0; e < 40; e++) {
                if (told[e][0] == SPARE) {
                    w.is("joined at its level", joinedAtItsLevel(told, e) ? 1 : 0, 1);
                }
            }
        }
    }

    private static int[][] toldOfAll(ForestKeeper x) {
        int[][] told = new int[x.count(1)][4];
        for (int e = 0; e < told.length; e++) {
            for (int what = 0; what < 4; what++) {
                told[e][what] = x.told(e, what);
            }
        }
        return told;
    }

    private static boolean joinedAtItsLevel(int[][] told, int spare) {
        boolean[] reached = new boolean[100];
        reached[told[spare][1]] = true;
        for (int round = 0; round < told.length; round++) {
            for (int[] edge : told) {
                if (edge[0] == TREE && edge[3] >= told[spare][3] && reached[edge[1]] != reached[edge[2]]) {
                    reached[edge[1]] = true;
                    reached[edge[2]] = true;
                }
            }
        }
        return reached[told[spare][2]];
    }

    private static void namedLast(Words w) {
        w.of(0, "ROOTS: of each PART a KNOT is its ROOT: of those of it that root() named,"
                + " the one that was named last;");
        ForestKeeper x = w.keeper(0, 0, 0, 0, 0);
        w.join(x, 0, 1, 0, 2, 3, 0);
        w.is("root", x.root(3), 2);
        w.is("root", x.root(1), 0);
        w.is("of each part one", x.below(2, 0), 3);
        w.is("of each part one", x.below(0, 0), 1);
        w.is("edge", x.edge(0, 2, 0), 2);
        w.is("of both the one named last", x.below(3, 0), 1);
        w.is("root", x.root(3), 1);
        w.is("named again, so last", x.below(1, 0), 3);
        w.is("cut", x.cut(1), NONE);
        w.is("it is named, though alone", x.below(3, 0), 3);
        w.is("the one named before", x.below(2, 0), 1);
    }

    private static void lowestNumber(Words w) {
        w.of(0, "if none was, the one with the lowest number.");
        ForestKeeper x = w.keeper(0, 0, 0, 0, 0);
        w.join(x, 3, 2, 0, 2, 1, 0);
        w.is("alone", x.below(0, 0), 0);
        for (int k = 1; k <= 3; k++) {
            w.is("of three", x.below(k, 0), 1);
        }
        w.is("root", x.root(2), 1);
        w.is("cut", x.cut(0), NONE);
        w.is("none of the rest was named", x.below(3, 0), 3);
        w.is("undo", x.undo(), 1);
        w.is("undo", x.undo(), 1);
        w.is("one whose naming was undone was not", x.below(3, 0), 1);
    }

    private static void rootHasNoParent(Words w) {
        w.of(0, "The PARENT of a KNOT is the next one on its WAY to the ROOT (the ROOT has none),");
        ForestKeeper x = w.keeper(0, 0, 0, 0, 0);
        w.join(x, 2, 0, 0, 1, 2, 0);
        w.is("alone", x.below(3, 1), NONE);
        w.is("the root", x.below(0, 1), NONE);
        w.is("beside it", x.below(2, 1), 0);
        w.is("behind that", x.below(1, 1), 2);
        w.is("root", x.root(1), 0);
        w.is("the new root", x.below(1, 1), NONE);
        w.is("the old one", x.below(0, 1), 2);
    }

    private static void depth(Words w) {
        w.of(0, "its DEPTH how many TREE edges that WAY has.");
        ForestKeeper x = w.keeper(1, 0, 0, 0, 0);
        w.join(x, 0, 1, 0, 1, 2, 0, 2, 0, 0);
        w.is("alone", x.below(3, 2), 0);
        w.is("the root", x.below(0, 2), 0);
        w.is("beside it", x.below(1, 2), 1);
        w.is("not by a spare edge", x.below(2, 2), 2);
    }

    private static void belowItself(Words w) {
        w.of(0, "BELOW a KNOT are itself and all on whose WAY to the ROOT it is.");
        ForestKeeper x = w.keeper(0, 1, 20, 300, 4000);
        w.join(x, 0, 1, 0, 1, 2, 0);
        w.is("alone", x.below(3, 3), 1);
        w.is("at the end: itself", x.below(2, 3), 1);
        w.is("in the midst", x.below(1, 3), 2);
        w.is("the root: all", x.below(0, 3), 3);
        w.is("itself and those", x.sumBelow(1), 320);
    }

    private static void firstOfBothWays(Words w) {
        w.of(0, "Where two KNOTS that are TOGETHER MEET is the first KNOT that both WAYS to the ROOT have.");
        ForestKeeper x = w.keeper(0, 0, 0, 0, 0, 0);
        w.join(x, 0, 1, 0, 1, 2, 0, 1, 3, 0, 0, 4, 0);
        w.is("itself", x.meet(2, 2), 2);
        w.is("the root with itself", x.meet(0, 0), 0);
        w.is("one below the other", x.meet(1, 3), 1);
        w.is("the other below the one", x.meet(3, 1), 1);
        w.is("not at the root", x.meet(2, 3), 1);
        w.is("at the root", x.meet(2, 4), 0);
        w.is("at the root, the second deeper", x.meet(4, 2), 0);
        w.is("with the root", x.meet(0, 2), 0);
    }

    private static void bridges(Words w) {
        w.of(0, "A BRIDGE is an EDGE that is there (TREE or SPARE) without which its two KNOTS would not"
                + " hang together by EDGES that are there, of both sorts.");
        for (int kind = 1; kind <= 2; kind++) {
            ForestKeeper x = w.keeper(kind, 0, 0, 0);
            w.join(x, 0, 1, 3, 1, 2, 2);
            w.is("alone between two", x.told(0, 4), 1);
            w.is("both", x.count(5), 2);
            w.is("one beside it", x.edge(0, 1, 1), 2);
            w.is("none of the two", x.told(0, 4) + x.told(2, 4), 0);
            w.is("the other one", x.count(5), 1);
            w.is("a ring", x.edge(0, 2, 9), 3);
            w.is("none in a ring", x.count(5), 0);
            w.is("cut", x.cut(2) == ForestKeeper.BAD ? 1 : 0, 0);
            w.is("cut", x.cut(0) == ForestKeeper.BAD ? 1 : 0, 0);
            w.is("those gone are none and hold nothing", x.count(5), 2);
            w.is("gone", x.told(0, 4), 0);
        }
    }

    private static void cutKnots(Words w) {
        w.of(0, "A CUT KNOT is one without which, and without its EDGES, two others that hang together by"
                + " EDGES that are there would not.");
        ForestKeeper x = w.keeper(1, 0, 0, 0, 0, 0);
        w.is("without edges", x.count(6), 0);
        w.is("edge", x.edge(0, 1, 0), 0);
        w.is("two alone", x.count(6), 0);
        w.is("edge", x.edge(0, 1, 0), 1);
        w.is("two with two edges", x.count(6), 0);
        w.is("edge", x.edge(1, 2, 0), 2);
        w.is("in the midst of three", x.below(1, 4), 1);
        w.is("at the end", x.below(0, 4) + x.below(2, 4), 0);
        w.is("edge", x.edge(2, 0, 0), 3);
        w.is("a ring by a spare edge", x.count(6), 0);
        w.is("edge", x.edge(2, 3, 0), 4);
        w.is("edge", x.edge(3, 4, 0), 5);
        w.is("edge", x.edge(4, 2, 0), 6);
        w.is("between two rings", x.below(2, 4), 1);
        w.is("no other one", x.count(6), 1);
        w.is("bridges there are none", x.count(5), 0);
        ForestKeeper y = w.keeper(0, 0, 0, 0);
        w.join(y, 0, 1, 0, 0, 2, 0);
        w.is("the first knot of all", y.below(0, 4), 1);
        w.is("cut", y.cut(0), NONE);
        w.is("cut", y.cut(1), NONE);
        w.is("by itself it is none any more", y.below(0, 4), 0);
    }
}
