/** Compares answers with what is due, prints each that differs, and ends with exit code 1 then. */
final class Due {
    private int asked = 0;
    private int wrong = 0;

    void is(String call, long got, long want) {
        asked++;
        if (got != want) {
            wrong++;
            if (wrong <= 50) {
                System.out.println(call + " answered " + got + ", due is " + want);
            }
        }
    }

    /** A keeper of one kind with as many KNOTS as values, which must come without refusal. */
    ForestKeeper keeper(int kind, long... values) {
        ForestKeeper x = new ForestKeeper();
        is("kind(" + kind + ") of a new object", x.kind(kind), 0);
        for (int i = 0; i < values.length; i++) {
            is("knot(" + values[i] + ")", x.knot(values[i]), i);
        }
        return x;
    }

    /** Joins KNOTS by pairs, with weights: a, b, weight, a, b, weight, .. */
    void join(ForestKeeper x, int... triples) {
        for (int i = 0; i + 2 < triples.length; i += 3) {
            is("edge(" + triples[i] + ", " + triples[i + 1] + ", " + triples[i + 2] + ")",
                    x.edge(triples[i], triples[i + 1], triples[i + 2]), i / 3);
        }
    }

    boolean anyWrong() {
        return wrong > 0;
    }

    void finish() {
        System.out.println(asked + " answers, " + wrong + " not as due");
        if (wrong > 0) {
            System.exit(1);
        }
    }
}
