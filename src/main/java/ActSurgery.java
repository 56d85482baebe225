/** Small graphs of places that make one another: what is seen, what acts do, and what would have been. */
public final class ActSurgery {
    public static final int NONE = -1, BAD = -2;

    private static final int MOST_PLACES = 6;
    private static final int MOST_ROWS = 32;
    private static final int NUMBERS = 16;
    private static final int EVEN = 8;

    private Graph here;
    private Graph other;
    private final Arrows cut;
    private final LikeGraphs likes;
    private final World one;
    private final World two;

    public ActSurgery() {
        here = new Graph();
        other = new Graph();
        cut = new Arrows();
        likes = new LikeGraphs();
        one = new World();
        two = new World();
    }

    public int begin(int n) {
        if (n < 1 || n > MOST_PLACES) {
            return BAD;
        }
        int were = here.arrows.size;
        here.restart(n);
        return were;
    }

    public int parents(int p, int set) {
        if (!isPlace(p) || !isWithin(set, placesBelow(p))) {
            return BAD;
        }
        int had = here.arrows.parents[p];
        here.putParents(p, set);
        return had;
    }

    public int weight(int p, int values, int w) {
        if (!isPlace(p) || !isWithin(values, here.arrows.parents[p]) || w < 0 || w > NUMBERS) {
            return BAD;
        }
        int was = here.weightAt(p, values);
        here.putWeight(p, values, w);
        return was;
    }

    public int hide(int p, boolean is) {
        if (!isPlace(p)) {
            return BAD;
        }
        boolean was = has(here.hidden, p);
        here.hidden = is ? here.hidden | 1 << p : here.hidden & ~(1 << p);
        return asNumber(was);
    }

    public int count(int what) {
        switch (what) {
            case 0:
                return here.arrows.size;
            case 1:
                return here.arrows.howMany();
            case 2:
                return here.hidden;
            case 3:
                likes.find(here.arrows);
                return likes.found;
            case 4:
                likes.find(here.arrows);
                return likes.howManySure();
            case 5:
                return here.howManyClumps();
            case 6:
                return howManyPairsParted();
            default:
                return BAD;
        }
    }

    public int of(int p, int what) {
        if (!isPlace(p)) {
            return BAD;
        }
        switch (what) {
            case 0:
                return here.arrows.parents[p];
            case 1:
                return here.arrows.childrenOf(p);
            case 2:
                return here.arrows.afterOf(p);
            case 3:
                return here.arrows.beforeOf(p);
            case 4:
                return here.clumpOf(p);
            case 5:
                likes.find(here.arrows);
                return likes.sureFrom(p);
            default:
                return BAD;
        }
    }

    public int parted(int a, int b, int z) {
        if (!isAskOfWays(a, b, z)) {
            return BAD;
        }
        return asNumber(here.arrows.isParted(a, b, z));
    }

    public int parting(int a, int b) {
        if (!isPair(a, b)) {
            return BAD;
        }
        return leastParting(a, b);
    }

    public int ways(int a, int b, int z) {
        if (!isAskOfWays(a, b, z)) {
            return BAD;
        }
        return here.arrows.openWays(a, b, z);
    }

    public int tells(int what, int a, int b, int set) {
        if (!isAskOfTelling(what, a, b) || !isWithin(set, mayTell(a, b))) {
            return BAD;
        }
        return asNumber(isTelling(what, a, b, set));
    }

    public int telling(int what, int a, int b) {
        if (!isAskOfTelling(what, a, b)) {
            return BAD;
        }
        int may = mayTell(a, b);
        int best = NONE;
        for (int set = 0; set <= may; set++) {
            if (isWithin(set, may) && isFewer(set, best) && isTelling(what, a, b, set)) {
                best = set;
            }
        }
        return best;
    }

    public int told(int a) {
        if (!isPlace(a) || has(here.hidden, a)) {
            return BAD;
        }
        return asNumber((here.seenFrom(a) & here.clumpOf(a)) == 0);
    }

    public int odds(int q, int v, int d, int e, int g, int h, int part) {
        if (!isValued(q, v) || !isValued(d, e) || !isValued(g, h) || !isPart(part)) {
            return BAD;
        }
        one.become(d, e, g, h);
        two.become(d, e, q, v);
        return oddsOfTwoGivenOne(part);
    }

    public int would(int q, int v, int d, int e, int g, int h, int part) {
        if (!isValued(q, v) || !isValued(d, e) || !isValued(g, h) || !isPart(part)) {
            return BAD;
        }
        one.become(0, 0, g, h);
        two.become(d, e, q, v);
        return oddsOfTwoGivenOne(part);
    }

    public int effect(int a, int b) {
        if (!isPair(a, b)) {
            return BAD;
        }
        one.become(1 << a, 1 << a, 1 << b, 1 << b);
        two.become(1 << a, 0, 1 << b, 1 << b);
        return here.drawsOfBoth(one, one) - here.drawsOfBoth(two, two);
    }

    public int swayed(int a, int b) {
        if (!isPair(a, b)) {
            return BAD;
        }
        one.become(1 << a, 1 << a, 1 << b, 1 << b);
        two.become(1 << a, 0, 1 << b, 0);
        return here.drawsOfBoth(one, two);
    }

    public int swap() {
        Graph was = here;
        here = other;
        other = was;
        return here.arrows.size;
    }

    public int keep() {
        other.copy(here);
        return here.arrows.size;
    }

    public int alike(int what) {
        if (what < 0 || what > 3) {
            return BAD;
        }
        if (here.arrows.size != other.arrows.size) {
            return 0;
        }
        switch (what) {
            case 0:
                return asNumber(here.arrows.hasShapeOf(other.arrows));
            case 1:
                return asNumber(haveSameOdds(allPlaces(), 0, 0));
            case 2:
                return asNumber(haveSameOdds(allPlaces(), 0, 0) && haveSameOddsOfActs());
            default:
                return asNumber(haveSameOdds(allPlaces() & ~here.hidden & ~other.hidden, 0, 0));
        }
    }

    private int allPlaces() {
        return placesBelow(here.arrows.size);
    }

    private boolean isPlace(int p) {
        return p >= 0 && p < here.arrows.size;
    }

    private boolean isPair(int a, int b) {
        return isPlace(a) && isPlace(b) && a != b;
    }

    private boolean isValued(int set, int values) {
        return isWithin(set, allPlaces()) && isWithin(values, set);
    }

    private boolean isPart(int part) {
        return part == 0 || part == 1;
    }

    private boolean isAskOfWays(int a, int b, int z) {
        return isPair(a, b) && isWithin(z, allPlaces() & ~(1 << a) & ~(1 << b));
    }

    private boolean isAskOfTelling(int what, int a, int b) {
        return what >= 0 && what <= 2 && isPair(a, b) && !has(here.hidden, a) && !has(here.hidden, b);
    }

    private int howManyPairsParted() {
        int pairs = 0;
        for (int a = 0; a < here.arrows.size; a++) {
            for (int b = a + 1; b < here.arrows.size; b++) {
                if (leastParting(a, b) != NONE) {
                    pairs++;
                }
            }
        }
        return pairs;
    }

    private int leastParting(int a, int b) {
        int may = allPlaces() & ~(1 << a) & ~(1 << b);
        int best = NONE;
        for (int set = 0; set <= may; set++) {
            if (isWithin(set, may) && isFewer(set, best) && here.arrows.isParted(a, b, set)) {
                best = set;
            }
        }
        return best;
    }

    /** The PLACES that a set for (a, b) may be made of. */
    private int mayTell(int a, int b) {
        return allPlaces() & ~here.hidden & ~(1 << a) & ~(1 << b);
    }

    private boolean isTelling(int what, int a, int b, int set) {
        switch (what) {
            case 0:
                return isBackSet(a, b, set);
            case 1:
                return isFrontSet(a, b, set);
            default:
                return isInstrument(a, b, set);
        }
    }

    private boolean isBackSet(int a, int b, int z) {
        if ((z & here.arrows.afterOf(a)) != 0) {
            return false;
        }
        cut.copyWithout(here.arrows, 1 << a);
        return cut.isParted(a, b, z);
    }

    private boolean isFrontSet(int a, int b, int m) {
        if (m == 0 || here.arrows.leadsPast(a, b, m)) {
            return false;
        }
        cut.copyWithout(here.arrows, 1 << a);
        if (!isEachParted(cut, m, a, 0)) {
            return false;
        }
        cut.copyWithout(here.arrows, m);
        return isEachParted(cut, m, b, 1 << a);
    }

    private static boolean isEachParted(Arrows arrows, int set, int goal, int z) {
        for (int p = 0; p < arrows.size; p++) {
            if (has(set, p) && !arrows.isParted(p, goal, z)) {
                return false;
            }
        }
        return true;
    }

    private boolean isInstrument(int a, int b, int set) {
        if (Integer.bitCount(set) != 1 || isEachParted(here.arrows, set, a, 0)) {
            return false;
        }
        cut.copyWithout(here.arrows, 1 << a);
        return isEachParted(cut, set, b, 0);
    }

    private int oddsOfTwoGivenOne(int part) {
        int below = here.drawsOfBoth(one, one);
        if (below <= 0) {
            return NONE;
        }
        int above = here.drawsOfBoth(one, two);
        int measure = commonMeasure(above, below);
        return (part == 0 ? above : below) / measure;
    }

    private boolean haveSameOdds(int set, int made, int madeAs) {
        for (int values = 0; values <= set; values++) {
            if (isWithin(values, set)) {
                one.become(made, madeAs, set, values);
                if (here.drawsOfBoth(one, one) != other.drawsOfBoth(one, one)) {
                    return false;
                }
            }
        }
        return true;
    }

    private boolean haveSameOddsOfActs() {
        for (int p = 0; p < here.arrows.size; p++) {
            if (!haveSameOdds(allPlaces(), 1 << p, 0) || !haveSameOdds(allPlaces(), 1 << p, 1 << p)) {
                return false;
            }
        }
        return true;
    }

    private static int asNumber(boolean is) {
        return is ? 1 : 0;
    }

    private static boolean has(int set, int p) {
        return (set >> p & 1) != 0;
    }

    private static boolean isWithin(int set, int whole) {
        return (set & ~whole) == 0;
    }

    private static int placesBelow(int p) {
        return (1 << p) - 1;
    }

    /** Sets are tried in rising order, so of two with as many PLACES the first is the least. */
    private static boolean isFewer(int set, int best) {
        return best == NONE || Integer.bitCount(set) < Integer.bitCount(best);
    }

    /** At least 1, so that it may divide. 16 to the 6 needs fewer than 40 steps. */
    private static int commonMeasure(int above, int below) {
        int greater = below;
        int lesser = above;
        for (int step = 0; step < 64 && lesser != 0; step++) {
            int rest = greater % lesser;
            greater = lesser;
            lesser = rest;
        }
        return Math.max(1, greater);
    }

    /** Which PLACES are PARENTS of which: always of lesser number, so that one pass in order follows all ARROWS. */
    private static final class Arrows {
        int size;
        final int[] parents = new int[MOST_PLACES];

        void copyWithout(Arrows from, int cutPlaces) {
            size = from.size;
            for (int p = 0; p < size; p++) {
                parents[p] = from.parents[p] & ~cutPlaces;
            }
        }

        int howMany() {
            int arrows = 0;
            for (int p = 0; p < size; p++) {
                arrows += Integer.bitCount(parents[p]);
            }
            return arrows;
        }

        int childrenOf(int p) {
            int children = 0;
            for (int q = p + 1; q < size; q++) {
                if (has(parents[q], p)) {
                    children |= 1 << q;
                }
            }
            return children;
        }

        int besideOf(int p) {
            return parents[p] | childrenOf(p);
        }

        int afterOf(int p) {
            int after = 0;
            for (int q = p + 1; q < size; q++) {
                if ((parents[q] & (after | 1 << p)) != 0) {
                    after |= 1 << q;
                }
            }
            return after;
        }

        int beforeOf(int p) {
            int before = parents[p];
            for (int q = p - 1; q >= 0; q--) {
                if (has(before, q)) {
                    before |= parents[q];
                }
            }
            return before;
        }

        /** Whether some row of ARROWS from a to b goes through none of the set. */
        boolean leadsPast(int a, int b, int set) {
            int reached = 1 << a;
            for (int q = a + 1; q < size; q++) {
                if (!has(set, q) && (parents[q] & reached) != 0) {
                    reached |= 1 << q;
                }
            }
            return has(reached, b);
        }

        boolean isParted(int a, int b, int z) {
            return openWaysOn(NONE, a, b, 1 << a, z, 0) == 0;
        }

        int openWays(int a, int b, int z) {
            return openWaysOn(NONE, a, b, 1 << a, z, 0);
        }

        private int openWaysOn(int last, int at, int goal, int been, int z, int depth) {
            if (at == goal) {
                return 1;
            }
            if (depth >= size) {
                return 0;
            }
            int found = 0;
            for (int next = 0; next < size; next++) {
                if (!has(been, next) && isBeside(at, next) && isOpenAt(last, at, next, z)) {
                    found += openWaysOn(at, next, goal, been | 1 << next, z, depth + 1);
                }
            }
            return found;
        }

        private boolean isBeside(int p, int q) {
            return has(parents[p], q) || has(parents[q], p);
        }

        private boolean isOpenAt(int last, int at, int next, int z) {
            if (last == NONE) {
                return true;
            }
            if (has(parents[at], last) && has(parents[at], next)) {
                return (z & (1 << at | afterOf(at))) != 0;
            }
            return !has(z, at);
        }

        /** All ARROWS go to greater PLACES here and there, so that those of one SHAPE are the same. */
        boolean hasShapeOf(Arrows that) {
            for (int p = 0; p < size; p++) {
                if (parents[p] != that.parents[p]) {
                    return false;
                }
            }
            return true;
        }
    }

    /** ARROWS with their WEIGHTS, and which PLACES are HIDDEN. */
    private static final class Graph {
        final Arrows arrows = new Arrows();
        final int[] weights = new int[MOST_PLACES * MOST_ROWS];
        int hidden;

        Graph() {
            restart(1);
        }

        void restart(int places) {
            arrows.size = places;
            hidden = 0;
            for (int p = 0; p < places; p++) {
                putParents(p, 0);
            }
        }

        void copy(Graph from) {
            arrows.copyWithout(from.arrows, 0);
            System.arraycopy(from.weights, 0, weights, 0, MOST_PLACES * MOST_ROWS);
            hidden = from.hidden;
        }

        void putParents(int p, int set) {
            arrows.parents[p] = set;
            for (int values = 0; values < MOST_ROWS; values++) {
                putWeight(p, values, EVEN);
            }
        }

        void putWeight(int p, int values, int w) {
            weights[p * MOST_ROWS + values] = w;
        }

        /** Of the values only those of p's PARENTS count. */
        int weightAt(int p, int values) {
            return weights[p * MOST_ROWS + (values & arrows.parents[p])];
        }

        /** The seen PLACES that p leads to by ARROWS whose PLACES between are all HIDDEN. */
        int seenFrom(int p) {
            int through = 1 << p;
            int seen = 0;
            for (int q = p + 1; q < arrows.size; q++) {
                if ((arrows.parents[q] & through) != 0) {
                    if (has(hidden, q)) {
                        through |= 1 << q;
                    } else {
                        seen |= 1 << q;
                    }
                }
            }
            return seen;
        }

        int clumpOf(int p) {
            if (has(hidden, p)) {
                return 0;
            }
            int clump = 1 << p;
            for (int round = 0; round < arrows.size; round++) {
                clump |= boundTo(clump);
            }
            return clump;
        }

        private int boundTo(int set) {
            int bound = 0;
            for (int h = 0; h < arrows.size; h++) {
                if (has(hidden, h)) {
                    int seen = seenFrom(h);
                    bound |= (seen & set) != 0 ? seen : 0;
                }
            }
            return bound;
        }

        int howManyClumps() {
            int clumps = 0;
            int done = hidden;
            for (int p = 0; p < arrows.size; p++) {
                if (!has(done, p)) {
                    clumps++;
                    done |= clumpOf(p);
                }
            }
            return clumps;
        }

        /** How many DRAWS there are that do in each of two worlds what is asked there. */
        int drawsOfBoth(World first, World second) {
            return drawsFrom(0, first, 0, second, 0);
        }

        private int drawsFrom(int p, World first, int x, World second, int y) {
            if (p >= arrows.size) {
                return 1;
            }
            int w1 = first.weightIn(p, weightAt(p, x));
            int w2 = second.weightIn(p, weightAt(p, y));
            int draws = 0;
            for (int v1 = 0; v1 <= 1; v1++) {
                for (int v2 = 0; v2 <= 1; v2++) {
                    int numbers = first.takes(p, v1) && second.takes(p, v2) ? numbersFor(w1, v1, w2, v2) : 0;
                    if (numbers > 0) {
                        draws += numbers * drawsFrom(p + 1, first, x | v1 << p, second, y | v2 << p);
                    }
                }
            }
            return draws;
        }

        /** How many numbers give one VALUE by the one WEIGHT and another by the other. */
        private static int numbersFor(int w1, int v1, int w2, int v2) {
            int least = Math.max(v1 == 1 ? 0 : w1, v2 == 1 ? 0 : w2);
            int above = Math.min(v1 == 1 ? w1 : NUMBERS, v2 == 1 ? w2 : NUMBERS);
            return Math.max(0, above - least);
        }
    }

    /** What is SET, and what is asked of the VALUES that come of it. */
    private static final class World {
        private int made;
        private int madeAs;
        private int asked;
        private int askedAs;

        void become(int madeSet, int madeValues, int askedSet, int askedValues) {
            made = madeSet;
            madeAs = madeValues;
            asked = askedSet;
            askedAs = askedValues;
        }

        boolean takes(int p, int value) {
            return !has(asked, p) || has(askedAs, p) == (value == 1);
        }

        /** A PLACE that is SET is as one whose number always, or never, is less than its WEIGHT. */
        int weightIn(int p, int weight) {
            if (!has(made, p)) {
                return weight;
            }
            return has(madeAs, p) ? NUMBERS : 0;
        }
    }

    /**
     * Finds the GRAPHS that are LIKE a given one. Each is laid out place by place in the least of the orders that
     * its ARROWS allow, so that none is found twice.
     */
    private static final class LikeGraphs {
        private final int[] beside = new int[MOST_PLACES];
        private final int[] order = new int[MOST_PLACES];
        private final int[] parentsNow = new int[MOST_PLACES];
        private final int[] sureParents = new int[MOST_PLACES];
        private int size;
        int found;

        void find(Arrows arrows) {
            size = arrows.size;
            found = 0;
            for (int p = 0; p < size; p++) {
                beside[p] = arrows.besideOf(p);
                sureParents[p] = arrows.parents[p];
            }
            lay(arrows, 0, 0);
        }

        private void lay(Arrows arrows, int laid, int depth) {
            if (depth >= size) {
                takeUp();
                return;
            }
            for (int p = 0; p < size; p++) {
                if (!has(laid, p) && isLeastOrder(p, depth)) {
                    parentsNow[p] = beside[p] & laid;
                    if (meetsAlike(p, arrows.parents[p])) {
                        order[depth] = p;
                        lay(arrows, laid | 1 << p, depth + 1);
                    }
                }
            }
        }

        private void takeUp() {
            found++;
            for (int p = 0; p < size; p++) {
                sureParents[p] &= parentsNow[p];
            }
        }

        /** An order is the least, if no greater PLACE stands between one and the last of its PARENTS. */
        private boolean isLeastOrder(int p, int depth) {
            for (int i = depth - 1; i >= 0; i--) {
                if (has(beside[p], order[i])) {
                    return true;
                }
                if (order[i] > p) {
                    return false;
                }
            }
            return true;
        }

        private boolean meetsAlike(int p, int parentsThere) {
            for (int a = 0; a < size; a++) {
                if (unjoined(parentsNow[p], a) != unjoined(parentsThere, a)) {
                    return false;
                }
            }
            return true;
        }

        /** If a is among these PARENTS: those of them that have no ARROW between a and them. */
        private int unjoined(int set, int a) {
            return has(set, a) ? set & ~beside[a] & ~(1 << a) : 0;
        }

        int howManySure() {
            int sure = 0;
            for (int p = 0; p < size; p++) {
                sure += Integer.bitCount(sureParents[p]);
            }
            return sure;
        }

        int sureFrom(int p) {
            int sure = 0;
            for (int q = 0; q < size; q++) {
                if (has(sureParents[q], p)) {
                    sure |= 1 << q;
                }
            }
            return sure;
        }
    }
}
