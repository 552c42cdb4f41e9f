import java.util.ArrayDeque;
import java.util.ArrayList;
import java.util.List;
import java.util.TreeSet;

/**
 * The document's words, as plainly as they can be coded, without regard to speed: whole copies
 * for undo, each answer from the definitions, and a host that truly throws. It is what
 * RandomRunsTest holds the class against.
 */
final class NaiveForest {
    static final int NONE = -1, BAD = -2, STATE = -3, FULL = -4;
    static final long NO = -4611686018427387904L;

    record Link(int first, int second, long weight, int how, int level) {
        Link as(int newHow) {
            return new Link(first, second, weight, newHow, level);
        }

        Link raised() {
            return new Link(first, second, weight, how, level + 1);
        }
    }

    /** All that undo brings back. */
    private record Copy(List<Long> values, List<Link> links, List<Integer> names, int rises) { }

    private List<Long> values = new ArrayList<>();
    private List<Link> links = new ArrayList<>();
    private List<Integer> names = new ArrayList<>();
    private int rises = 0;
    private int kind = 0;
    private int status = 0;
    private final ArrayDeque<Copy> copies = new ArrayDeque<>();
    private final Object[] trays = new Object[6];

    private boolean isKnot(int k) {
        return k >= 0 && k < values.size();
    }

    private boolean isLink(int e) {
        return e >= 0 && e < links.size();
    }

    private void keep() {
        copies.addLast(new Copy(new ArrayList<>(values), new ArrayList<>(links),
                new ArrayList<>(names), rises));
        if (copies.size() > 20) {
            copies.removeFirst();
        }
    }

    /** The numbers of the links of a WAY; null: none. */
    private List<Integer> waySteps(int a, int b) {
        return waySteps(a, b, NONE);
    }

    private List<Integer> waySteps(int a, int b, int by) {
        if (a == b) {
            return new ArrayList<>();
        }
        for (int e = 0; e < links.size(); e++) {
            Link l = links.get(e);
            if (l.how != 1 || e == by || (l.first != a && l.second != a)) {
                continue;
            }
            List<Integer> rest = waySteps(l.first == a ? l.second : l.first, b, e);
            if (rest != null) {
                rest.add(0, e);
                return rest;
            }
        }
        return null;
    }

    /** The KNOTS of a WAY; null: none. */
    private List<Integer> wayKnots(int a, int b) {
        List<Integer> steps = waySteps(a, b);
        if (steps == null) {
            return null;
        }
        List<Integer> found = new ArrayList<>();
        int k = a;
        found.add(k);
        for (int e : steps) {
            Link l = links.get(e);
            k = l.first == k ? l.second : l.first;
            found.add(k);
        }
        return found;
    }

    /** The KNOTS that some links lead to: those of a how (or all there), of a LEVEL and more. */
    private TreeSet<Integer> reach(int a, boolean treeOnly, int level, int withoutLink, int withoutKnot) {
        TreeSet<Integer> found = new TreeSet<>();
        found.add(a);
        boolean more = true;
        while (more) {
            more = false;
            for (int e = 0; e < links.size(); e++) {
                Link l = links.get(e);
                if (e == withoutLink || l.how == 0 || (treeOnly && l.how != 1) || l.level < level
                        || l.first == withoutKnot || l.second == withoutKnot) {
                    continue;
                }
                if (found.contains(l.first) != found.contains(l.second)) {
                    found.add(l.first);
                    found.add(l.second);
                    more = true;
                }
            }
        }
        return found;
    }

    private TreeSet<Integer> part(int a) {
        return reach(a, true, 0, NONE, NONE);
    }

    private boolean heavier(int e, int f) {
        long x = links.get(e).weight;
        long y = links.get(f).weight;
        return x > y || (x == y && e > f);
    }

    private boolean isBridge(int e) {
        Link l = links.get(e);
        return l.how != 0 && !reach(l.first, false, 0, e, NONE).contains(l.second);
    }

    private boolean isCutKnot(int k) {
        TreeSet<Integer> others = reach(k, false, 0, NONE, NONE);
        others.remove(k);
        if (others.isEmpty()) {
            return false;
        }
        return reach(others.first(), false, 0, NONE, k).size() < others.size();
    }

    private int rootOf(int a) {
        TreeSet<Integer> part = part(a);
        for (int i = names.size() - 1; i >= 0; i--) {
            if (part.contains(names.get(i))) {
                return names.get(i);
            }
        }
        return part.first();
    }

    private List<Integer> allBelow(int a) {
        List<Integer> found = new ArrayList<>();
        int root = rootOf(a);
        for (int k : part(a)) {
            if (wayKnots(k, root).contains(a)) {
                found.add(k);
            }
        }
        return found;
    }

    int knot(long v) {
        if (values.size() == 100) {
            return FULL;
        }
        copies.clear();
        values.add(v);
        return values.size() - 1;
    }

    int kind(int k) {
        if (k < 0 || k > 2) {
            return BAD;
        }
        if (!links.isEmpty()) {
            return STATE;
        }
        int was = kind;
        kind = k;
        return was;
    }

    int edge(int a, int b, long weight) {
        if (!isKnot(a) || !isKnot(b) || a == b) {
            return BAD;
        }
        if (links.size() == 300) {
            return FULL;
        }
        boolean ring = part(a).contains(b);
        if (kind == 0 && ring) {
            return STATE;
        }
        int top = ring ? heaviest(a, b) : NONE;
        keep();
        int e = links.size();
        links.add(new Link(a, b, weight, ring ? 2 : 1, 0));
        if (ring && kind == 2 && heavier(top, e)) {
            links.set(top, links.get(top).as(2));
            links.set(e, links.get(e).as(1));
        }
        return e;
    }

    int cut(int e) {
        if (!isLink(e) || links.get(e).how == 0) {
            return BAD;
        }
        keep();
        return go(e);
    }

    private int go(int e) {
        Link went = links.get(e);
        links.set(e, went.as(0));
        if (went.how == 2 || kind == 0) {
            return NONE;
        }
        int heir = kind == 2 ? lightest(went) : byLevels(went);
        if (heir != NONE) {
            links.set(heir, links.get(heir).as(1));
        }
        return heir;
    }

    private int lightest(Link went) {
        TreeSet<Integer> one = part(went.first);
        TreeSet<Integer> other = part(went.second);
        int best = NONE;
        for (int f = 0; f < links.size(); f++) {
            Link l = links.get(f);
            boolean joins = (one.contains(l.first) && other.contains(l.second))
                    || (one.contains(l.second) && other.contains(l.first));
            if (l.how == 2 && joins && (best == NONE || heavier(best, f))) {
                best = f;
            }
        }
        return best;
    }

    private void raise(int f) {
        links.set(f, links.get(f).raised());
        rises++;
    }

    private int byLevels(Link went) {
        for (int i = went.level; i >= 0; i--) {
            TreeSet<Integer> one = reach(went.first, true, i, NONE, NONE);
            TreeSet<Integer> other = reach(went.second, true, i, NONE, NONE);
            TreeSet<Integer> smaller = one.size() <= other.size() ? one : other;
            TreeSet<Integer> larger = smaller == one ? other : one;
            for (int f = 0; f < links.size(); f++) {
                Link l = links.get(f);
                if (l.how == 1 && l.level == i && smaller.contains(l.first) && smaller.contains(l.second)) {
                    raise(f);
                }
            }
            for (int f = 0; f < links.size(); f++) {
                Link l = links.get(f);
                if (l.how != 2 || l.level != i) {
                    continue;
                }
                boolean first = smaller.contains(l.first);
                boolean second = smaller.contains(l.second);
                if (first && second) {
                    raise(f);
                } else if (first || second) {
                    if (!larger.contains(first ? l.second : l.first)) {
                        throw new IllegalStateException("the document says that this can't be");
                    }
                    return f;
                }
            }
        }
        return NONE;
    }

    int instead(int e) {
        if (!isLink(e) || links.get(e).how == 0) {
            return BAD;
        }
        List<Link> were = new ArrayList<>(links);
        int risen = rises;
        int heir = go(e);
        links = were;
        rises = risen;
        return heir;
    }

    int told(int e, int what) {
        if (!isLink(e) || what < 0 || what > 4) {
            return BAD;
        }
        if (what == 4) {
            return isBridge(e) ? 1 : 0;
        }
        Link l = links.get(e);
        int[] answers = {l.how, l.first, l.second, l.level};
        return answers[what];
    }

    long weight(int e) {
        return isLink(e) ? links.get(e).weight : NO;
    }

    int count(int what) {
        int many = 0;
        switch (what) {
            case 0:
                return values.size();
            case 1:
                return links.size();
            case 2:
            case 3:
                for (Link l : links) {
                    many += l.how == what - 1 ? 1 : 0;
                }
                return many;
            case 4:
                for (int k = 0; k < values.size(); k++) {
                    many += part(k).first() == k ? 1 : 0;
                }
                return many;
            case 5:
                for (int e = 0; e < links.size(); e++) {
                    many += isBridge(e) ? 1 : 0;
                }
                return many;
            case 6:
                for (int k = 0; k < values.size(); k++) {
                    many += isCutKnot(k) ? 1 : 0;
                }
                return many;
            case 7:
                return copies.size();
            case 8:
                return rises;
            default:
                return BAD;
        }
    }

    long total() {
        long all = 0;
        for (Link l : links) {
            all += l.how == 1 ? l.weight : 0;
        }
        return all;
    }

    int together(int a, int b) {
        return !isKnot(a) || !isKnot(b) ? BAD : part(a).contains(b) ? 1 : 0;
    }

    int size(int a) {
        return !isKnot(a) ? BAD : part(a).size();
    }

    int member(int a, int i) {
        if (!isKnot(a)) {
            return BAD;
        }
        List<Integer> part = new ArrayList<>(part(a));
        return i < 0 || i >= part.size() ? NONE : part.get(i);
    }

    int way(int a, int b) {
        if (!isKnot(a) || !isKnot(b)) {
            return BAD;
        }
        List<Integer> steps = waySteps(a, b);
        return steps == null ? NONE : steps.size();
    }

    int between(int a, int b, int i) {
        if (!isKnot(a) || !isKnot(b)) {
            return BAD;
        }
        List<Integer> on = wayKnots(a, b);
        return on == null || i < 0 || i >= on.size() ? NONE : on.get(i);
    }

    int heaviest(int a, int b) {
        if (!isKnot(a) || !isKnot(b)) {
            return BAD;
        }
        List<Integer> steps = waySteps(a, b);
        int top = NONE;
        if (steps != null) {
            for (int e : steps) {
                top = top == NONE || heavier(e, top) ? e : top;
            }
        }
        return top;
    }

    long sum(int a, int b) {
        List<Integer> on = !isKnot(a) || !isKnot(b) ? null : wayKnots(a, b);
        return on == null ? NO : sumOf(on);
    }

    private long sumOf(List<Integer> knots) {
        long all = 0;
        for (int k : knots) {
            all += values.get(k);
        }
        return all;
    }

    private int addTo(List<Integer> knots, long v) {
        for (int k : knots) {
            values.set(k, values.get(k) + v);
        }
        return knots.size();
    }

    long least(int a, int b) {
        List<Integer> on = !isKnot(a) || !isKnot(b) ? null : wayKnots(a, b);
        if (on == null) {
            return NO;
        }
        long lowest = Long.MAX_VALUE;
        for (int k : on) {
            lowest = Math.min(lowest, values.get(k));
        }
        return lowest;
    }

    int add(int a, int b, long v) {
        if (!isKnot(a) || !isKnot(b)) {
            return BAD;
        }
        List<Integer> on = wayKnots(a, b);
        if (on == null) {
            return STATE;
        }
        keep();
        return addTo(on, v);
    }

    long value(int a) {
        return isKnot(a) ? values.get(a) : NO;
    }

    int set(int a, long v) {
        if (!isKnot(a)) {
            return BAD;
        }
        keep();
        values.set(a, v);
        return 1;
    }

    int root(int a) {
        if (!isKnot(a)) {
            return BAD;
        }
        int was = rootOf(a);
        keep();
        names.add(a);
        return was;
    }

    int below(int a, int what) {
        if (!isKnot(a) || what < 0 || what > 4) {
            return BAD;
        }
        if (what > 2) {
            return what == 3 ? allBelow(a).size() : isCutKnot(a) ? 1 : 0;
        }
        List<Integer> up = wayKnots(a, rootOf(a));
        int[] answers = {rootOf(a), up.size() > 1 ? up.get(1) : NONE, up.size() - 1};
        return answers[what];
    }

    int meet(int a, int b) {
        if (!isKnot(a) || !isKnot(b)) {
            return BAD;
        }
        if (!part(a).contains(b)) {
            return NONE;
        }
        List<Integer> up = wayKnots(a, rootOf(a));
        up.retainAll(wayKnots(b, rootOf(b)));
        return up.get(0);
    }

    long sumBelow(int a) {
        return isKnot(a) ? sumOf(allBelow(a)) : NO;
    }

    int addBelow(int a, long v) {
        if (!isKnot(a)) {
            return BAD;
        }
        keep();
        return addTo(allBelow(a), v);
    }

    int undo() {
        if (copies.isEmpty()) {
            return NONE;
        }
        Copy c = copies.removeLast();
        values = c.values;
        links = c.links;
        names = c.names;
        rises = c.rises;
        return 1;
    }

    int put(int tray, int what, int a, int b) {
        status = 1;
        if (tray < 0 || tray > 5 || what < 0 || what > 4) {
            return -1;
        }
        if (what == 1 && (!isLink(a) || links.get(a).how == 0)) {
            return -1;
        }
        if (what > 1 && !isKnot(a)) {
            return -1;
        }
        if (what == 3 && (!isKnot(b) || !part(a).contains(b))) {
            return -1;
        }
        status = 0;
        trays[tray] = what == 0 ? null : what == 1 ? links.get(a) : rowOf(what, a, b);
        return 1;
    }

    private Object rowOf(int what, int a, int b) {
        if (what == 2) {
            return part(a).stream().mapToInt(k -> k).toArray();
        }
        if (what == 3) {
            return waySteps(a, b).stream().mapToLong(e -> links.get(e).weight).toArray();
        }
        boolean[] truths = new boolean[values.size()];
        for (int k : part(a)) {
            truths[k] = true;
        }
        return truths;
    }

    int forge(int tray, int what, int n) {
        status = 1;
        if (tray < 0 || tray > 5 || what < 0 || what > 8 || n < -100 || n > 100) {
            return -1;
        }
        try {
            int answer = host(trays[tray], what, n);
            status = 0;
            return answer;
        } catch (NullPointerException x) {
            status = 10;
        } catch (ClassCastException x) {
            status = 11;
        } catch (IndexOutOfBoundsException x) {
            status = 12;
        } catch (NegativeArraySizeException x) {
            status = 13;
        } catch (ArrayStoreException x) {
            status = 14;
        } catch (ArithmeticException x) {
            status = 15;
        }
        return -1;
    }

    private static int host(Object thing, int what, int n) {
        switch (what) {
            case 0:
                return ((Link) thing).first;
            case 1:
                return ((int[]) thing)[n];
            case 2:
                int many = 0;
                for (long w : (long[]) thing) {
                    many += w == n ? 1 : 0;
                }
                return many;
            case 3:
                return ((boolean[]) thing)[n] ? 1 : 0;
            case 4:
                return new long[n].length;
            case 5:
                int[] row = new int[8];
                System.arraycopy((int[]) thing, 0, row, n, n);
                int all = 0;
                for (int k : row) {
                    all += k;
                }
                return all;
            case 6:
                Object[] rows = new long[1][];
                rows[0] = thing;
                return thing == null ? 0 : ((long[][]) rows)[0].length;
            case 7:
                return 1000 / n;
            default:
                RuntimeException none = null;
                throw none;
        }
    }

    int status() {
        return status;
    }
}
