import java.io.IOException;
import java.nio.charset.StandardCharsets;
import java.nio.file.Files;
import java.nio.file.Path;

/**
 * The document's own words. Each test of a sentence says of which words it is: so they are told
 * with a wrong answer, a sentence that was changed is found, and none is left without a test.
 */
final class Words {
    private static final int TERMS = 0, PROMISES = 30;

    private final Due d = new Due();
    private final String[] sections = new String[PROMISES + 1];
    private final boolean[][] tested = new boolean[PROMISES + 1][];
    private String label = "";

    Words() throws IOException {
        String doc = Files.readString(Path.of("../shared/DOC.md"), StandardCharsets.UTF_8)
                .replaceAll("\\s+", " ");
        sections[TERMS] = between(doc, "## Terms ", "## Promise 1:")
                .replaceAll("```(text)? |==== \\d ", "");
        for (int p = 1; p <= PROMISES; p++) {
            String end = p < PROMISES ? "## Promise " + (p + 1) + ":" : "## Not promised";
            // The heading and the method's own line are for LanguageTest to hold.
            sections[p] = between(doc, "## Promise " + p + ":", end).replaceFirst("^.*?`: ", "");
        }
        for (int p = 0; p <= PROMISES; p++) {
            tested[p] = new boolean[sections[p].length()];
        }
    }

    private static String between(String doc, String start, String end) {
        int from = doc.indexOf(start);
        int to = doc.indexOf(end);
        if (from < 0 || to < from) {
            throw new IllegalStateException("the document has no part from " + start + " to " + end);
        }
        return doc.substring(from + start.length(), to);
    }

    /** What is asked from here on is of these words of a promise; 0: of the Terms. */
    void of(int promise, String words) {
        label = (promise == TERMS ? "Terms" : "P" + promise) + " \"" + words + "\": ";
        String section = sections[promise];
        int first = section.indexOf(words);
        is("these words stand there", first >= 0 ? 1 : 0, 1);
        if (first < 0) {
            return;
        }
        // Short words stand in several places: each time the next one is meant.
        int at = first;
        while (at >= 0 && tested[promise][at]) {
            at = section.indexOf(words, at + 1);
        }
        at = at < 0 ? first : at;
        for (int i = at; i < at + words.length(); i++) {
            tested[promise][i] = true;
        }
    }

    void is(String call, long got, long want) {
        d.is(label + call, got, want);
    }

    ForestKeeper keeper(int kind, long... values) {
        return d.keeper(kind, values);
    }

    void join(ForestKeeper x, int... triples) {
        d.join(x, triples);
    }

    /** The values of the KNOTS from 0 on. */
    void values(ForestKeeper x, long... want) {
        for (int k = 0; k < want.length; k++) {
            is("value(" + k + ")", x.value(k), want[k]);
        }
    }

    /** Numbers around a row of so many that are none such in it. */
    static int[] outside(int many) {
        return new int[] {-1, -2, many, many + 1, 1000, Integer.MIN_VALUE, Integer.MAX_VALUE};
    }

    /** Two objects answer alike, now and after each undo(). */
    void same(ForestKeeper x, ForestKeeper y) {
        for (int what = 0; what <= 8; what++) {
            is("count(" + what + ")", x.count(what), y.count(what));
        }
        is("total()", x.total(), y.total());
        is("status()", x.status(), y.status());
        sameEdges(x, y, 4);
        sameKnots(x, y, 4);
        for (int i = y.count(7); i >= 0; i--) {
            is("undo()", x.undo(), y.undo());
            is("count(8)", x.count(8), y.count(8));
            sameEdges(x, y, 0);
            sameKnots(x, y, 0);
        }
    }

    private void sameEdges(ForestKeeper x, ForestKeeper y, int mostWhat) {
        is("count(1)", x.count(1), y.count(1));
        for (int e = 0; e < y.count(1); e++) {
            for (int what = 0; what <= mostWhat; what++) {
                is("told(" + e + ", " + what + ")", x.told(e, what), y.told(e, what));
            }
            is("weight(" + e + ")", x.weight(e), y.weight(e));
        }
    }

    private void sameKnots(ForestKeeper x, ForestKeeper y, int mostWhat) {
        for (int k = 0; k < y.count(0); k++) {
            for (int what = 0; what <= mostWhat; what++) {
                is("below(" + k + ", " + what + ")", x.below(k, what), y.below(k, what));
            }
            is("value(" + k + ")", x.value(k), y.value(k));
        }
    }

    /** Each word of the Terms and of each promise must have been tested. */
    void finish() {
        label = "";
        for (int p = 0; p <= PROMISES; p++) {
            String rest = restOf(p);
            is((p == TERMS ? "Terms" : "P" + p) + " words without a test: " + rest, rest.length(), 0);
        }
        d.finish();
    }

    private String restOf(int p) {
        StringBuilder rest = new StringBuilder();
        for (int i = 0; i < tested[p].length; i++) {
            char c = sections[p].charAt(i);
            if (!tested[p][i] && Character.isLetterOrDigit(c)) {
                rest.append(c);
            }
        }
        return rest.toString();
    }
}
