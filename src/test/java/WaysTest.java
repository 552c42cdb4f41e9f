/** Promises 11 to 21: who is TOGETHER, WAYS, and values along them. */
public final class WaysTest {
    private static final int NONE = ForestKeeper.NONE, BAD = ForestKeeper.BAD;
    private static final int STATE = ForestKeeper.STATE;
    private static final long NO = ForestKeeper.NO;
    private static final int[] NO_KNOTS = {-1, 7, 100, Integer.MIN_VALUE, Integer.MAX_VALUE};
    private static final Due d = new Due();

    public static void main(String[] args) {
        parts();
        ways();
        heaviestOnes();
        values();
        adding();
        wrapping();
        noKnots();
        d.finish();
    }

    /** 4 - 1 - 0 - 5 with 3 at 0, in that order; 2 and 6 by themselves. */
    private static ForestKeeper sample() {
        ForestKeeper x = d.keeper(0, 10, 20, 30, -4, 50, 60, 70);
        d.join(x, 4, 1, 3, 0, 1, 9, 5, 0, 3, 0, 3, -8);
        return x;
    }

    private static void parts() {
        ForestKeeper x = sample();
        d.is("P11 together", x.together(4, 5), 1);
        d.is("P11 itself", x.together(6, 6), 1);
        d.is("P11 apart", x.together(4, 2), 0);
        d.is("P11 apart", x.together(2, 6), 0);
        d.is("P12 size", x.size(3), 5);
        d.is("P12 size", x.size(6), 1);
        int[] members = {0, 1, 3, 4, 5};
        for (int i = 0; i < members.length; i++) {
            d.is("P13 member " + i, x.member(5, i), members[i]);
        }
        d.is("P13 member of one", x.member(2, 0), 2);
        for (int i : new int[] {-1, 5, 100, Integer.MIN_VALUE, Integer.MAX_VALUE}) {
            d.is("P13 member " + i, x.member(5, i), NONE);
        }
    }

    private static void ways() {
        ForestKeeper x = sample();
        d.is("P14 way", x.way(4, 5), 3);
        d.is("P14 way", x.way(5, 4), 3);
        d.is("P14 way to itself", x.way(2, 2), 0);
        d.is("P14 no way", x.way(2, 0), NONE);
        int[] knots = {4, 1, 0, 5};
        for (int i = 0; i < knots.length; i++) {
            d.is("P15 between there", x.between(4, 5, i), knots[i]);
            d.is("P15 between back", x.between(5, 4, i), knots[3 - i]);
        }
        d.is("P15 itself", x.between(6, 6, 0), 6);
        d.is("P15 itself", x.between(6, 6, 1), NONE);
        for (int i : new int[] {-1, 4, Integer.MIN_VALUE, Integer.MAX_VALUE}) {
            d.is("P15 no such", x.between(4, 5, i), NONE);
        }
        for (int i = -2; i < 2; i++) {
            d.is("P15 apart", x.between(2, 0, i), NONE);
        }
    }

    private static void heaviestOnes() {
        ForestKeeper x = sample();
        d.is("P16 heaviest", x.heaviest(4, 5), 1);
        d.is("P16 heaviest", x.heaviest(3, 5), 2);
        d.is("P16 of one", x.heaviest(3, 0), 3);
        d.is("P16 itself", x.heaviest(3, 3), NONE);
        d.is("P16 apart", x.heaviest(3, 2), NONE);
        ForestKeeper y = d.keeper(0, 0, 0, 0, 0);
        d.join(y, 0, 1, 5, 1, 2, 5, 2, 3, 4);
        d.is("P16 of equal ones the later", y.heaviest(0, 3), 1);
        d.is("P16 of equal ones the later", y.heaviest(3, 0), 1);
    }

    private static void values() {
        ForestKeeper x = sample();
        d.is("P17 sum", x.sum(4, 5), 140);
        d.is("P17 sum", x.sum(3, 4), 76);
        d.is("P17 itself", x.sum(3, 3), -4);
        d.is("P17 apart", x.sum(3, 2), NO);
        d.is("P18 least", x.least(4, 5), 10);
        d.is("P18 least at an end", x.least(3, 4), -4);
        d.is("P18 least at the other end", x.least(4, 3), -4);
        d.is("P18 itself", x.least(6, 6), 70);
        d.is("P18 apart", x.least(3, 2), NO);
        d.is("P20 value", x.value(3), -4);
        d.is("P21 set", x.set(3, 99), 1);
        d.is("P21 value", x.value(3), 99);
        d.is("P21 the same", x.set(3, 99), 1);
        d.is("P21 sum", x.sum(3, 0), 109);
    }

    private static void adding() {
        ForestKeeper x = sample();
        d.is("P19 add", x.add(4, 0, 1000), 3);
        long[] want = {1010, 1020, 30, -4, 1050, 60, 70};
        for (int k = 0; k < want.length; k++) {
            d.is("P19 value", x.value(k), want[k]);
        }
        d.is("P19 itself", x.add(2, 2, -1), 1);
        d.is("P19 value", x.value(2), 29);
        d.is("P19 apart", x.add(2, 4, 5), STATE);
        d.is("P19 a refusal is no change", x.count(7), 6);
        d.is("P19 value", x.value(2), 29);
    }

    private static void wrapping() {
        ForestKeeper x = d.keeper(0, Long.MAX_VALUE, 1);
        d.join(x, 0, 1, 0);
        d.is("P17 wraps", x.sum(0, 1), Long.MIN_VALUE);
        d.is("P19 add", x.add(0, 1, Long.MAX_VALUE), 2);
        d.is("P19 wraps", x.value(0), -2);
        d.is("P19 wraps", x.value(1), Long.MIN_VALUE);
        d.is("P18 least", x.least(0, 1), Long.MIN_VALUE);
        d.is("P27 undo", x.undo(), 1);
        d.is("P27 wraps back", x.value(0), Long.MAX_VALUE);
        d.is("P27 wraps back", x.value(1), 1);
        d.is("P19 add the least long", x.add(0, 1, Long.MIN_VALUE), 2);
        d.is("P19 wraps", x.value(0), -1);
        d.is("P27 undo", x.undo(), 1);
        d.is("P27 wraps back", x.value(0), Long.MAX_VALUE);
    }

    private static void noKnots() {
        ForestKeeper x = sample();
        for (int k : NO_KNOTS) {
            for (int turned = 0; turned < 2; turned++) {
                int a = turned == 0 ? k : 0;
                int b = turned == 0 ? 0 : k;
                d.is("P11 bad", x.together(a, b), BAD);
                d.is("P14 bad", x.way(a, b), BAD);
                d.is("P15 bad", x.between(a, b, 0), BAD);
                d.is("P15 bad", x.between(a, b, -1), BAD);
                d.is("P16 bad", x.heaviest(a, b), BAD);
                d.is("P17 no", x.sum(a, b), NO);
                d.is("P18 no", x.least(a, b), NO);
                d.is("P19 bad", x.add(a, b, 1), BAD);
            }
            d.is("P11 bad with itself", x.together(k, k), BAD);
            d.is("P12 bad", x.size(k), BAD);
            d.is("P13 bad", x.member(k, 0), BAD);
            d.is("P13 bad", x.member(k, -1), BAD);
            d.is("P20 no", x.value(k), NO);
            d.is("P21 bad", x.set(k, 1), BAD);
        }
        d.is("refusals are no changes", x.count(7), 4);
    }
}
