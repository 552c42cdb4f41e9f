import java.util.Arrays;

/** Keeps a forest of edges between knots, as ../shared/DOC.md promises. */
public final class ForestKeeper {
    public static final int NONE = -1, BAD = -2, STATE = -3, FULL = -4;
    public static final long NO = -4611686018427387904L;

    private static final int MOST_KNOTS = 100, MOST_EDGES = 300, MOST_CHANGES = 20;
    private static final int TRAY_COUNT = 6, MOST_ASKED = 100, NEW_ROW = 8;

    private static final int PLAIN = 0, SPARING = 1, SPANNING = 2;
    private static final int GONE = 0, TREE = 1, SPARE = 2;

    // A side that rises is at most half of what was one side before, and one KNOT alone has
    // no EDGE: 100 KNOTS can't lift an EDGE beyond LEVEL 5.
    private static final int MOST_LEVEL = 5;

    private static final int SETTING = 0, ADDING = 1, ADDING_BELOW = 2, NAMING = 3, JOINING = 4;
    private static final int CUTTING_TREE = 5, CUTTING_SPARE = 6;

    private static final int NOTHING = 0, AN_EDGE = 1, KNOTS = 2, WEIGHTS = 3, TRUTHS = 4;

    private static final int DONE = 0, NO_SUCH = 1, IS_NOTHING = 10, OTHER_THING = 11;
    private static final int OUTSIDE = 12, BELOW_ZERO = 13, NO_FIT = 14, BY_ZERO = 15;

    private final long[] values = new long[MOST_KNOTS];
    // When a KNOT was named ROOT last; 0: never.
    private final int[] named = new int[MOST_KNOTS];
    private final Edges edges = new Edges();
    private final Flood flood = new Flood();
    private final Flood otherFlood = new Flood();
    private final Way track = new Way();
    private final Hinges hinges = new Hinges();
    private final Past past = new Past();
    private final Tray[] trays = new Tray[TRAY_COUNT];
    private int knots;
    private int namings;
    private int theKind = PLAIN;
    private int lastStatus = DONE;

    public ForestKeeper() {
        for (int i = 0; i < TRAY_COUNT; i++) {
            trays[i] = new Tray();
        }
    }

    public int knot(long v) {
        if (knots >= MOST_KNOTS) {
            return FULL;
        }
        values[knots] = v;
        past.forget();
        return knots++;
    }

    public int kind(int k) {
        if (k < PLAIN || k > SPANNING) {
            return BAD;
        }
        if (edges.came > 0) {
            return STATE;
        }
        int was = theKind;
        theKind = k;
        return was;
    }

    public int edge(int a, int b, long weight) {
        if (!isKnot(a) || !isKnot(b) || a == b) {
            return BAD;
        }
        if (edges.came >= MOST_EDGES) {
            return FULL;
        }
        boolean closesRing = layTrack(a, b) >= 0;
        if (closesRing && theKind == PLAIN) {
            return STATE;
        }
        int e = edges.append(a, b, weight, closesRing ? SPARE : TREE);
        int displaced = NONE;
        if (closesRing && theKind == SPANNING) {
            displaced = displaceHeavier(e);
        }
        past.note(JOINING, displaced, NONE, 0);
        return e;
    }

    public int cut(int e) {
        if (!edges.isThere(e)) {
            return BAD;
        }
        boolean wasTree = edges.how[e] == TREE;
        int risenBefore = edges.risen;
        int heir = wasTree ? findHeir(e, true) : NONE;
        edges.how[e] = GONE;
        if (heir != NONE) {
            edges.how[heir] = TREE;
        }
        past.note(wasTree ? CUTTING_TREE : CUTTING_SPARE, e, heir, risenBefore);
        return heir;
    }

    public int instead(int e) {
        if (!edges.isThere(e)) {
            return BAD;
        }
        return edges.how[e] == TREE ? findHeir(e, false) : NONE;
    }

    public int told(int e, int what) {
        if (!edges.hasCome(e)) {
            return BAD;
        }
        switch (what) {
            case 0:
                return edges.how[e];
            case 1:
                return edges.first[e];
            case 2:
                return edges.second[e];
            case 3:
                return edges.level[e];
            case 4:
                hinges.find(edges, knots);
                return edges.isThere(e) && hinges.isBridge(edges, e) ? 1 : 0;
            default:
                return BAD;
        }
    }

    public long weight(int e) {
        return edges.hasCome(e) ? edges.weights[e] : NO;
    }

    public int count(int what) {
        switch (what) {
            case 0:
                return knots;
            case 1:
                return edges.came;
            case 2:
                return edges.howMany(TREE);
            case 3:
                return edges.howMany(SPARE);
            case 4:
                // Without rings, each TREE edge makes one PART of two.
                return knots - edges.howMany(TREE);
            case 5:
                hinges.find(edges, knots);
                return hinges.bridges;
            case 6:
                hinges.find(edges, knots);
                return hinges.cutKnots;
            case 7:
                return past.length;
            case 8:
                return edges.risen;
            default:
                return BAD;
        }
    }

    public long total() {
        long weights = 0;
        for (int e = 0; e < edges.came; e++) {
            if (edges.how[e] == TREE) {
                weights += edges.weights[e];
            }
        }
        return weights;
    }

    public int together(int a, int b) {
        int steps = layTrack(a, b);
        if (steps == BAD) {
            return BAD;
        }
        return steps == NONE ? 0 : 1;
    }

    public int size(int a) {
        if (!isKnot(a)) {
            return BAD;
        }
        floodPart(a);
        return flood.length;
    }

    public int member(int a, int i) {
        if (!isKnot(a)) {
            return BAD;
        }
        floodPart(a);
        int lower = 0;
        for (int k = 0; k < knots; k++) {
            if (flood.reached[k]) {
                if (lower == i) {
                    return k;
                }
                lower++;
            }
        }
        return NONE;
    }

    public int way(int a, int b) {
        return layTrack(a, b);
    }

    public int between(int a, int b, int i) {
        int steps = layTrack(a, b);
        if (steps == BAD) {
            return BAD;
        }
        return i < 0 || i > steps ? NONE : track.knots[i];
    }

    public int heaviest(int a, int b) {
        return layTrack(a, b) == BAD ? BAD : track.heaviestOf(edges);
    }

    public long sum(int a, int b) {
        int steps = layTrack(a, b);
        if (steps < 0) {
            return NO;
        }
        long all = 0;
        for (int i = 0; i <= steps; i++) {
            all += values[track.knots[i]];
        }
        return all;
    }

    public long least(int a, int b) {
        int steps = layTrack(a, b);
        if (steps < 0) {
            return NO;
        }
        long lowest = values[track.knots[0]];
        for (int i = 1; i <= steps; i++) {
            lowest = Math.min(lowest, values[track.knots[i]]);
        }
        return lowest;
    }

    public int add(int a, int b, long v) {
        int steps = layTrack(a, b);
        if (steps == BAD) {
            return BAD;
        }
        if (steps == NONE) {
            return STATE;
        }
        past.note(ADDING, a, b, v);
        return addOnTrack(v);
    }

    public long value(int a) {
        return isKnot(a) ? values[a] : NO;
    }

    public int set(int a, long v) {
        if (!isKnot(a)) {
            return BAD;
        }
        past.note(SETTING, a, NONE, values[a]);
        values[a] = v;
        return 1;
    }

    public int root(int a) {
        if (!isKnot(a)) {
            return BAD;
        }
        int was = findRoot(a);
        past.note(NAMING, a, named[a], 0);
        namings++;
        named[a] = namings;
        return was;
    }

    public int below(int a, int what) {
        if (!isKnot(a)) {
            return BAD;
        }
        switch (what) {
            case 0:
                return findRoot(a);
            case 1:
                floodFromRoot(a);
                return flood.before(edges, a);
            case 2:
                floodFromRoot(a);
                return flood.far[a];
            case 3:
                floodBelow(a);
                return flood.length;
            case 4:
                hinges.find(edges, knots);
                return hinges.isCutKnot[a] ? 1 : 0;
            default:
                return BAD;
        }
    }

    public int meet(int a, int b) {
        if (!isKnot(a) || !isKnot(b)) {
            return BAD;
        }
        floodFromRoot(a);
        if (!flood.reached[b]) {
            return NONE;
        }
        int x = a;
        int y = b;
        for (int step = 0; x != y && step < 2 * MOST_KNOTS; step++) {
            // Of two unlike KNOTS the one farther off is not the ROOT, so it has a PARENT.
            if (flood.far[x] >= flood.far[y]) {
                x = flood.before(edges, x);
            } else {
                y = flood.before(edges, y);
            }
        }
        return x;
    }

    public long sumBelow(int a) {
        if (!isKnot(a)) {
            return NO;
        }
        floodBelow(a);
        long all = 0;
        for (int i = 0; i < flood.length; i++) {
            all += values[flood.line[i]];
        }
        return all;
    }

    public int addBelow(int a, long v) {
        if (!isKnot(a)) {
            return BAD;
        }
        past.note(ADDING_BELOW, a, NONE, v);
        floodBelow(a);
        return addOnFlood(v);
    }

    public int undo() {
        int change = past.takeLatest();
        if (change == NONE) {
            return NONE;
        }
        takeBack(past.sorts[change], past.ones[change], past.twos[change], past.amounts[change]);
        return 1;
    }

    public int put(int tray, int what, int a, int b) {
        if (!isTray(tray) || !canPut(what, a, b)) {
            return refuse(NO_SUCH);
        }
        Tray to = trays[tray];
        switch (what) {
            case AN_EDGE:
                to.begin(AN_EDGE);
                to.lay(edges.first[a]);
                break;
            case KNOTS:
                putKnots(to, a);
                break;
            case WEIGHTS:
                putWeights(to, a, b);
                break;
            case TRUTHS:
                putTruths(to, a);
                break;
            default:
                to.begin(NOTHING);
                break;
        }
        lastStatus = DONE;
        return 1;
    }

    public int forge(int tray, int what, int n) {
        if (!isTray(tray) || what < 0 || what > 8 || n < -MOST_ASKED || n > MOST_ASKED) {
            return refuse(NO_SUCH);
        }
        Tray from = trays[tray];
        switch (what) {
            case 0:
                return pick(from, AN_EDGE, 0);
            case 1:
                return pick(from, KNOTS, n);
            case 2:
                return countLike(from, n);
            case 3:
                return pick(from, TRUTHS, n);
            case 4:
                return n < 0 ? refuse(BELOW_ZERO) : grant(n);
            case 5:
                return sumOfCopy(from, n);
            case 6:
                return layIntoRows(from);
            case 7:
                return n == 0 ? refuse(BY_ZERO) : grant(1000 / n);
            default:
                return refuse(IS_NOTHING);
        }
    }

    public int status() {
        return lastStatus;
    }

    private boolean isKnot(int k) {
        return k >= 0 && k < knots;
    }

    private boolean isTray(int tray) {
        return tray >= 0 && tray < TRAY_COUNT;
    }

    /** Lays the WAY: its length; BAD: no such KNOTS; NONE: they are not TOGETHER. */
    private int layTrack(int a, int b) {
        if (!isKnot(a) || !isKnot(b)) {
            return BAD;
        }
        // From the far end, so that each KNOT knows the next one on the way to it.
        floodPart(b);
        track.lay(edges, flood, a);
        return track.length;
    }

    private void floodPart(int a) {
        flood.spread(edges, a, NONE, 0);
    }

    private int findRoot(int a) {
        flood.spread(edges, a, NONE, 0);
        int best = a;
        for (int i = 0; i < flood.length; i++) {
            int k = flood.line[i];
            if (named[k] > named[best] || (named[k] == named[best] && k < best)) {
                best = k;
            }
        }
        return best;
    }

    private void floodFromRoot(int a) {
        flood.spread(edges, findRoot(a), NONE, 0);
    }

    private void floodBelow(int a) {
        flood.spread(edges, findRoot(a), NONE, 0);
        // Without the edge to its PARENT, a KNOT leads to just those BELOW it.
        flood.spread(edges, a, flood.by[a], 0);
    }

    private int addOnTrack(long v) {
        for (int i = 0; i <= track.length; i++) {
            values[track.knots[i]] += v;
        }
        return track.length + 1;
    }

    private int addOnFlood(long v) {
        for (int i = 0; i < flood.length; i++) {
            values[flood.line[i]] += v;
        }
        return flood.length;
    }

    /** The new EDGE takes the place of the HEAVIEST of the track, if that one is HEAVIER. */
    private int displaceHeavier(int e) {
        int top = track.heaviestOf(edges);
        if (top == NONE || !edges.isHeavier(top, e)) {
            return NONE;
        }
        edges.how[top] = SPARE;
        edges.how[e] = TREE;
        return top;
    }

    /** The EDGE that becomes TREE if the TREE edge e goes; LEVELS rise only if asked. */
    private int findHeir(int e, boolean raising) {
        switch (theKind) {
            case SPARING:
                return findHeirByLevels(e, raising);
            case SPANNING:
                return findLightestAcross(e);
            default:
                return NONE;
        }
    }

    private int findHeirByLevels(int e, boolean raising) {
        // What rises at one LEVEL is asked at no lower one: the heir is the same without it.
        for (int i = edges.level[e]; i >= 0; i--) {
            Flood smaller = floodSmaller(e, i);
            if (raising) {
                raiseTrees(smaller, i);
            }
            int heir = findHeirAt(smaller, i, raising);
            if (heir != NONE) {
                return heir;
            }
        }
        return NONE;
    }

    private Flood floodSmaller(int e, int level) {
        flood.spread(edges, edges.first[e], e, level);
        otherFlood.spread(edges, edges.second[e], e, level);
        return flood.length <= otherFlood.length ? flood : otherFlood;
    }

    private void raiseTrees(Flood smaller, int level) {
        for (int e = 0; e < edges.came; e++) {
            if (edges.isAt(e, TREE, level) && smaller.endsOf(edges, e) == 2) {
                edges.raise(e);
            }
        }
    }

    private int findHeirAt(Flood smaller, int level, boolean raising) {
        for (int e = 0; e < edges.came; e++) {
            if (!edges.isAt(e, SPARE, level)) {
                continue;
            }
            int ends = smaller.endsOf(edges, e);
            if (ends == 1) {
                return e;
            }
            if (ends == 2 && raising) {
                edges.raise(e);
            }
        }
        return NONE;
    }

    private int findLightestAcross(int e) {
        flood.spread(edges, edges.first[e], e, 0);
        int lightest = NONE;
        for (int f = 0; f < edges.came; f++) {
            if (edges.how[f] == SPARE && flood.endsOf(edges, f) == 1
                    && (lightest == NONE || edges.isHeavier(lightest, f))) {
                lightest = f;
            }
        }
        return lightest;
    }

    /** Undoes one change; all that came after it is undone by then, so WAYS are as they were. */
    private void takeBack(int sort, int one, int two, long amount) {
        switch (sort) {
            case SETTING:
                values[one] = amount;
                break;
            case ADDING:
                layTrack(one, two);
                addOnTrack(-amount);
                break;
            case ADDING_BELOW:
                floodBelow(one);
                addOnFlood(-amount);
                break;
            case NAMING:
                named[one] = two;
                break;
            case JOINING:
                edges.dropLatest();
                if (one != NONE) {
                    edges.how[one] = TREE;
                }
                break;
            default:
                takeBackCut(one, two, sort == CUTTING_TREE ? TREE : SPARE, (int) amount);
                break;
        }
    }

    private void takeBackCut(int e, int heir, int wasHow, int risenBefore) {
        if (heir != NONE) {
            edges.how[heir] = SPARE;
        }
        edges.how[e] = wasHow;
        edges.lowerTo(risenBefore);
    }

    private int refuse(int why) {
        lastStatus = why;
        return NONE;
    }

    private int grant(int answer) {
        lastStatus = DONE;
        return answer;
    }

    private boolean canPut(int what, int a, int b) {
        switch (what) {
            case NOTHING:
                return true;
            case AN_EDGE:
                return edges.isThere(a);
            case KNOTS:
            case TRUTHS:
                return isKnot(a);
            case WEIGHTS:
                return layTrack(a, b) >= 0;
            default:
                return false;
        }
    }

    private void putKnots(Tray to, int a) {
        floodPart(a);
        to.begin(KNOTS);
        for (int k = 0; k < knots; k++) {
            if (flood.reached[k]) {
                to.lay(k);
            }
        }
    }

    private void putWeights(Tray to, int a, int b) {
        int steps = layTrack(a, b);
        to.begin(WEIGHTS);
        for (int i = 0; i < steps; i++) {
            to.lay(edges.weights[track.steps[i]]);
        }
    }

    private void putTruths(Tray to, int a) {
        floodPart(a);
        to.begin(TRUTHS);
        for (int k = 0; k < knots; k++) {
            to.lay(flood.reached[k] ? 1 : 0);
        }
    }

    /** Why a TRAY's THING can't be taken for another one; DONE: it can. */
    private int whyNot(Tray from, int thing) {
        if (from.thing == NOTHING) {
            return IS_NOTHING;
        }
        return from.thing == thing ? DONE : OTHER_THING;
    }

    private int pick(Tray from, int thing, int place) {
        int why = whyNot(from, thing);
        if (why != DONE) {
            return refuse(why);
        }
        if (place < 0 || place >= from.length) {
            return refuse(OUTSIDE);
        }
        return grant((int) from.row[place]);
    }

    private int countLike(Tray from, int n) {
        int why = whyNot(from, WEIGHTS);
        if (why != DONE) {
            return refuse(why);
        }
        int like = 0;
        for (int i = 0; i < from.length; i++) {
            if (from.row[i] == n) {
                like++;
            }
        }
        return grant(like);
    }

    private int sumOfCopy(Tray from, int n) {
        int why = whyNot(from, KNOTS);
        if (why != DONE) {
            return refuse(why);
        }
        if (n < 0 || n > from.length || n + n > NEW_ROW) {
            return refuse(OUTSIDE);
        }
        // The rest of the new row is 0, so what was copied is its sum.
        int all = 0;
        for (int i = 0; i < n; i++) {
            all += (int) from.row[i];
        }
        return grant(all);
    }

    private int layIntoRows(Tray from) {
        if (from.thing == NOTHING) {
            return grant(0);
        }
        return from.thing == WEIGHTS ? grant(from.length) : refuse(NO_FIT);
    }

    /** All EDGES that came, and at which KNOTS they are. */
    private static final class Edges {
        final int[] first = new int[MOST_EDGES];
        final int[] second = new int[MOST_EDGES];
        final long[] weights = new long[MOST_EDGES];
        final int[] how = new int[MOST_EDGES];
        final int[] level = new int[MOST_EDGES];
        // Each KNOT's EDGES are a chain of links; link 2e is e's at its first KNOT, 2e + 1 at
        // its second one. GONE ones stay in it, since undo() may bring them back.
        final int[] latestLink = new int[MOST_KNOTS];
        final int[] nextLink = new int[2 * MOST_EDGES];
        // Which EDGE each rise was of, so that it can be taken back.
        final int[] rises = new int[MOST_EDGES * MOST_LEVEL];
        int came;
        int risen;

        Edges() {
            Arrays.fill(latestLink, NONE);
        }

        boolean hasCome(int e) {
            return e >= 0 && e < came;
        }

        boolean isThere(int e) {
            return hasCome(e) && how[e] != GONE;
        }

        boolean isAt(int e, int asHow, int atLevel) {
            return how[e] == asHow && level[e] == atLevel;
        }

        boolean isHeavier(int e, int than) {
            return weights[e] != weights[than] ? weights[e] > weights[than] : e > than;
        }

        int across(int e, int k) {
            return first[e] == k ? second[e] : first[e];
        }

        int howMany(int asHow) {
            int many = 0;
            for (int e = 0; e < came; e++) {
                if (how[e] == asHow) {
                    many++;
                }
            }
            return many;
        }

        int append(int a, int b, long w, int asHow) {
            int e = came;
            first[e] = a;
            second[e] = b;
            weights[e] = w;
            how[e] = asHow;
            level[e] = 0;
            chain(2 * e, a);
            chain(2 * e + 1, b);
            came++;
            return e;
        }

        private void chain(int link, int k) {
            nextLink[link] = latestLink[k];
            latestLink[k] = link;
        }

        void dropLatest() {
            if (came == 0) {
                return;
            }
            came--;
            // The latest EDGE stands first in both its chains.
            latestLink[first[came]] = nextLink[2 * came];
            latestLink[second[came]] = nextLink[2 * came + 1];
        }

        void raise(int e) {
            if (risen < rises.length) {
                rises[risen] = e;
                risen++;
                level[e]++;
            }
        }

        void lowerTo(int risenBefore) {
            for (int i = risen - 1; i >= risenBefore && i >= 0; i--) {
                level[rises[i]]--;
                risen = i;
            }
        }
    }

    /** The KNOTS to which TREE edges lead from one KNOT, the nearer ones first. */
    private static final class Flood {
        final int[] line = new int[MOST_KNOTS];
        final int[] far = new int[MOST_KNOTS];
        final int[] by = new int[MOST_KNOTS];
        final boolean[] reached = new boolean[MOST_KNOTS];
        int length;

        void spread(Edges edges, int start, int without, int leastLevel) {
            clear();
            reach(start, NONE, 0);
            for (int i = 0; i < length && i < MOST_KNOTS; i++) {
                spreadFrom(edges, line[i], without, leastLevel);
            }
        }

        private void clear() {
            for (int i = 0; i < length; i++) {
                reached[line[i]] = false;
            }
            length = 0;
        }

        private void reach(int k, int e, int steps) {
            reached[k] = true;
            by[k] = e;
            far[k] = steps;
            line[length] = k;
            length++;
        }

        private void spreadFrom(Edges edges, int k, int without, int leastLevel) {
            int link = edges.latestLink[k];
            for (int i = 0; link != NONE && i < MOST_EDGES; i++) {
                int e = link / 2;
                int to = edges.across(e, k);
                if (edges.how[e] == TREE && e != without && edges.level[e] >= leastLevel
                        && !reached[to]) {
                    reach(to, e, far[k] + 1);
                }
                link = edges.nextLink[link];
            }
        }

        /** The KNOT from which k was reached; NONE: it is the first one. */
        int before(Edges edges, int k) {
            return by[k] == NONE ? NONE : edges.across(by[k], k);
        }

        int endsOf(Edges edges, int e) {
            return (reached[edges.first[e]] ? 1 : 0) + (reached[edges.second[e]] ? 1 : 0);
        }
    }

    /** The KNOTS and TREE edges from one KNOT to another one. */
    private static final class Way {
        final int[] knots = new int[MOST_KNOTS];
        final int[] steps = new int[MOST_KNOTS];
        int length = NONE;

        /** Lays the WAY from a to where the flood began. */
        void lay(Edges edges, Flood flood, int a) {
            if (!flood.reached[a]) {
                length = NONE;
                return;
            }
            length = flood.far[a];
            int k = a;
            for (int i = 0; i < length; i++) {
                knots[i] = k;
                steps[i] = flood.by[k];
                k = flood.before(edges, k);
            }
            knots[length] = k;
        }

        int heaviestOf(Edges edges) {
            int top = NONE;
            for (int i = 0; i < length; i++) {
                if (top == NONE || edges.isHeavier(steps[i], top)) {
                    top = steps[i];
                }
            }
            return top;
        }
    }

    /** BRIDGES and CUT KNOTS: one walk over all EDGES that are there, as deep as it can go. */
    private static final class Hinges {
        // A walk follows each link at most once and leaves each KNOT at most once.
        private static final int MOST_STEPS = 2 * MOST_EDGES + 2 * MOST_KNOTS;

        // When a KNOT was come to; 0: not yet.
        final int[] turn = new int[MOST_KNOTS];
        // The earliest turn that it, or one come to through it, has an EDGE to.
        final int[] low = new int[MOST_KNOTS];
        final int[] by = new int[MOST_KNOTS];
        final int[] nextLink = new int[MOST_KNOTS];
        final boolean[] isCutKnot = new boolean[MOST_KNOTS];
        int turns;
        int sprouts;
        int bridges;
        int cutKnots;

        void find(Edges edges, int knots) {
            Arrays.fill(turn, 0);
            turns = 0;
            bridges = 0;
            cutKnots = 0;
            for (int k = 0; k < knots; k++) {
                if (turn[k] == 0) {
                    walkFrom(edges, k);
                }
            }
        }

        boolean isBridge(Edges edges, int e) {
            return isBridgeTo(edges.first[e], e) || isBridgeTo(edges.second[e], e);
        }

        private boolean isBridgeTo(int k, int e) {
            return by[k] == e && low[k] == turn[k];
        }

        private void walkFrom(Edges edges, int start) {
            sprouts = 0;
            enter(edges, start, NONE);
            int k = start;
            for (int step = 0; k != NONE && step < MOST_STEPS; step++) {
                int link = nextLink[k];
                if (link == NONE) {
                    k = leave(edges, k);
                } else {
                    nextLink[k] = edges.nextLink[link];
                    k = follow(edges, k, link / 2);
                }
            }
            // The first KNOT parts only what was come to from it itself more than once.
            if (sprouts > 1) {
                markCutKnot(start);
            }
        }

        private void enter(Edges edges, int k, int e) {
            turns++;
            turn[k] = turns;
            low[k] = turns;
            by[k] = e;
            isCutKnot[k] = false;
            nextLink[k] = edges.latestLink[k];
        }

        private int follow(Edges edges, int k, int e) {
            if (e == by[k] || !edges.isThere(e)) {
                return k;
            }
            int to = edges.across(e, k);
            if (turn[to] == 0) {
                enter(edges, to, e);
                return to;
            }
            low[k] = Math.min(low[k], turn[to]);
            return k;
        }

        private int leave(Edges edges, int k) {
            if (by[k] == NONE) {
                return NONE;
            }
            int back = edges.across(by[k], k);
            low[back] = Math.min(low[back], low[k]);
            if (low[k] == turn[k]) {
                bridges++;
            }
            if (by[back] == NONE) {
                sprouts++;
            } else if (low[k] >= turn[back]) {
                markCutKnot(back);
            }
            return back;
        }

        private void markCutKnot(int k) {
            if (!isCutKnot[k]) {
                isCutKnot[k] = true;
                cutKnots++;
            }
        }
    }

    /** The latest changes, with what is needed to undo each of them. */
    private static final class Past {
        final int[] sorts = new int[MOST_CHANGES];
        final int[] ones = new int[MOST_CHANGES];
        final int[] twos = new int[MOST_CHANGES];
        final long[] amounts = new long[MOST_CHANGES];
        int oldest;
        int length;

        void note(int sort, int one, int two, long amount) {
            if (length == MOST_CHANGES) {
                oldest = (oldest + 1) % MOST_CHANGES;
                length--;
            }
            int place = (oldest + length) % MOST_CHANGES;
            sorts[place] = sort;
            ones[place] = one;
            twos[place] = two;
            amounts[place] = amount;
            length++;
        }

        int takeLatest() {
            if (length == 0) {
                return NONE;
            }
            length--;
            return (oldest + length) % MOST_CHANGES;
        }

        void forget() {
            length = 0;
        }
    }

    /** A TRAY; each THING is told by its row, so that no new one is made for it. */
    private static final class Tray {
        // An EDGE: its first KNOT. KNOTS and weights: themselves. Truths: 1, 0.
        final long[] row = new long[MOST_KNOTS];
        int thing = NOTHING;
        int length;

        void begin(int newThing) {
            thing = newThing;
            length = 0;
        }

        void lay(long x) {
            if (length < row.length) {
                row[length] = x;
                length++;
            }
        }
    }
}
