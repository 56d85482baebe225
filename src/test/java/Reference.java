import java.util.HashSet;
import java.util.Set;
import java.util.TreeMap;

/**
 * The document's words once more, by other means than the program's: DRAWS are gone through one by one, GRAPHS are
 * all tried, what parts is found by joining the makers of each PLACE.
 */
final class Reference {
    final int n;
    final boolean[][] arrow;
    final int[][] weight;
    int hidden;

    Reference(int n) {
        this.n = n;
        arrow = new boolean[n][n];
        weight = new int[n][64];
        for (int p = 0; p < n; p++) {
            java.util.Arrays.fill(weight[p], 8);
        }
    }

    /** The same graph becomes the program's. */
    void putIn(ActSurgery x) {
        x.begin(n);
        for (int p = 0; p < n; p++) {
            int parents = parents(p);
            x.parents(p, parents);
            for (int values = 0; values <= parents; values++) {
                if ((values & ~parents) == 0) {
                    x.weight(p, values, weight[p][values]);
                }
            }
            if (in(hidden, p)) {
                x.hide(p, true);
            }
        }
    }

    ActSurgery made() {
        ActSurgery x = new ActSurgery();
        putIn(x);
        return x;
    }

    static boolean in(int set, int p) {
        return (set & (1 << p)) != 0;
    }

    int parents(int p) {
        int set = 0;
        for (int q = 0; q < n; q++) {
            set |= arrow[q][p] ? 1 << q : 0;
        }
        return set;
    }

    // ---- ARROWS ----

    private static boolean[][] without(boolean[][] arrow, int cut) {
        boolean[][] left = new boolean[arrow.length][];
        for (int p = 0; p < arrow.length; p++) {
            left[p] = in(cut, p) ? new boolean[arrow.length] : arrow[p].clone();
        }
        return left;
    }

    private static boolean[][] leads(boolean[][] arrow) {
        int n = arrow.length;
        boolean[][] reach = without(arrow, 0);
        for (int k = 0; k < n; k++) {
            for (int i = 0; i < n; i++) {
                for (int j = 0; j < n; j++) {
                    reach[i][j] |= reach[i][k] && reach[k][j];
                }
            }
        }
        return reach;
    }

    int after(int p) {
        boolean[][] reach = leads(arrow);
        int set = 0;
        for (int q = 0; q < n; q++) {
            set |= reach[p][q] ? 1 << q : 0;
        }
        return set;
    }

    int before(int p) {
        boolean[][] reach = leads(arrow);
        int set = 0;
        for (int q = 0; q < n; q++) {
            set |= reach[q][p] ? 1 << q : 0;
        }
        return set;
    }

    /** By the moral graph of all that leads to a, b or Z. */
    static boolean parted(boolean[][] arrow, int a, int b, int z) {
        int n = arrow.length;
        boolean[][] reach = leads(arrow);
        int kept = 1 << a | 1 << b | z;
        int asked = kept;
        for (int p = 0; p < n; p++) {
            for (int q = 0; q < n; q++) {
                if (reach[p][q] && in(asked, q)) {
                    kept |= 1 << p;
                }
            }
        }
        boolean[][] joined = new boolean[n][n];
        for (int c = 0; c < n; c++) {
            for (int p = 0; p < n && in(kept, c); p++) {
                if (arrow[p][c]) {
                    joined[p][c] = true;
                    joined[c][p] = true;
                    for (int q = 0; q < n; q++) {
                        joined[p][q] |= arrow[q][c];
                    }
                }
            }
        }
        int seen = 1 << a;
        for (int round = 0; round < n; round++) {
            for (int p = 0; p < n; p++) {
                for (int q = 0; q < n; q++) {
                    if (in(seen, p) && joined[p][q] && in(kept, q) && !in(z, q)) {
                        seen |= 1 << q;
                    }
                }
            }
        }
        return !in(seen, b);
    }

    boolean parted(int a, int b, int z) {
        return parted(arrow, a, b, z);
    }

    /** All rows of different PLACES are tried, each by its number in the base n. */
    int ways(int a, int b, int z) {
        int open = 0;
        for (int length = 0; length <= n - 2; length++) {
            int rows = 1;
            for (int i = 0; i < length; i++) {
                rows *= n;
            }
            for (int row = 0; row < rows; row++) {
                int[] way = new int[length + 2];
                way[0] = a;
                way[length + 1] = b;
                int rest = row;
                for (int i = 1; i <= length; i++) {
                    way[i] = rest % n;
                    rest /= n;
                }
                open += isOpen(way, z) ? 1 : 0;
            }
        }
        return open;
    }

    private boolean isOpen(int[] way, int z) {
        int been = 0;
        for (int p : way) {
            if (in(been, p)) {
                return false;
            }
            been |= 1 << p;
        }
        for (int i = 0; i + 1 < way.length; i++) {
            if (!arrow[way[i]][way[i + 1]] && !arrow[way[i + 1]][way[i]]) {
                return false;
            }
        }
        for (int i = 1; i + 1 < way.length; i++) {
            int p = way[i];
            boolean meeting = arrow[way[i - 1]][p] && arrow[way[i + 1]][p];
            boolean known = in(z, p) || meeting && (after(p) & z) != 0;
            if (meeting != known) {
                return false;
            }
        }
        return true;
    }

    int fewest(java.util.function.IntPredicate is, int may) {
        for (int size = 0; size <= n; size++) {
            for (int set = 0; set < 1 << n; set++) {
                if ((set & ~may) == 0 && Integer.bitCount(set) == size && is.test(set)) {
                    return set;
                }
            }
        }
        return -1;
    }

    int parting(int a, int b) {
        return fewest(z -> parted(a, b, z), ~(1 << a | 1 << b));
    }

    int partedPairs() {
        int pairs = 0;
        for (int a = 0; a < n; a++) {
            for (int b = 0; b < a; b++) {
                pairs += parting(a, b) >= 0 ? 1 : 0;
            }
        }
        return pairs;
    }

    // ---- what tells ----

    int mayTell(int a, int b) {
        return ~(1 << a | 1 << b | hidden);
    }

    boolean tells(int what, int a, int b, int set) {
        boolean[][] cut = without(arrow, 1 << a);
        if (what == 0) {
            return (set & after(a)) == 0 && parted(cut, a, b, set);
        }
        if (what == 1) {
            boolean[][] past = without(arrow, set);
            boolean all = set != 0 && !leads(past)[a][b];
            for (int m = 0; m < n; m++) {
                all &= !in(set, m) || parted(cut, m, a, 0) && parted(past, m, b, 1 << a);
            }
            return all;
        }
        for (int i = 0; i < n; i++) {
            if (set == 1 << i) {
                return !parted(arrow, i, a, 0) && parted(cut, i, b, 0);
            }
        }
        return false;
    }

    int telling(int what, int a, int b) {
        return fewest(set -> tells(what, a, b, set), mayTell(a, b));
    }

    /** Whether p leads to q by ARROWS whose PLACES between are all HIDDEN: only p's and HIDDEN ones' ARROWS count. */
    private boolean leadsHidden(int p, int q) {
        return leads(without(arrow, ~hidden & ~(1 << p)))[p][q];
    }

    int clump(int p) {
        if (in(hidden, p)) {
            return 0;
        }
        boolean[][] bound = new boolean[n][n];
        for (int h = 0; h < n; h++) {
            for (int a = 0; a < n; a++) {
                for (int b = 0; b < n; b++) {
                    bound[a][b] |= in(hidden, h) && !in(hidden, a) && !in(hidden, b)
                        && leadsHidden(h, a) && leadsHidden(h, b);
                }
            }
        }
        boolean[][] hangs = leads(bound);
        int set = 1 << p;
        for (int q = 0; q < n; q++) {
            set |= hangs[p][q] ? 1 << q : 0;
        }
        return set;
    }

    int clumps() {
        Set<Integer> clumps = new HashSet<>();
        for (int p = 0; p < n; p++) {
            if (!in(hidden, p)) {
                clumps.add(clump(p));
            }
        }
        return clumps.size();
    }

    boolean told(int a) {
        for (int q = 0; q < n; q++) {
            if (!in(hidden, q) && leadsHidden(a, q) && in(clump(a), q)) {
                return false;
            }
        }
        return true;
    }

    // ---- LIKE ----

    static Set<String> shape(boolean[][] arrow) {
        int n = arrow.length;
        Set<String> shape = new HashSet<>();
        for (int a = 0; a < n; a++) {
            for (int b = 0; b < a; b++) {
                if (arrow[a][b] || arrow[b][a]) {
                    shape.add(a + "-" + b);
                } else {
                    for (int c = 0; c < n; c++) {
                        if (arrow[a][c] && arrow[b][c]) {
                            shape.add(a + ">" + c + "<" + b);
                        }
                    }
                }
            }
        }
        return shape;
    }

    /** [0][0]: how many; [1 + p][q]: how many of them have the ARROW from p to q. */
    int[][] like() {
        Set<String> due = shape(arrow);
        int[][] found = new int[n + 1][n];
        int[][] pairs = new int[n * n][];
        int count = 0;
        for (int a = 0; a < n; a++) {
            for (int b = 0; b < a; b++) {
                if (arrow[a][b] || arrow[b][a]) {
                    pairs[count++] = new int[] {a, b};
                }
            }
        }
        for (int turn = 0; turn < 1 << count; turn++) {
            boolean[][] tried = new boolean[n][n];
            for (int i = 0; i < count; i++) {
                tried[pairs[i][in(turn, i) ? 0 : 1]][pairs[i][in(turn, i) ? 1 : 0]] = true;
            }
            if (hasNoRing(tried) && shape(tried).equals(due)) {
                found[0][0]++;
                for (int p = 0; p < n; p++) {
                    for (int q = 0; q < n; q++) {
                        found[1 + p][q] += tried[p][q] ? 1 : 0;
                    }
                }
            }
        }
        return found;
    }

    private static boolean hasNoRing(boolean[][] arrow) {
        boolean[][] reach = leads(arrow);
        for (int p = 0; p < arrow.length; p++) {
            if (reach[p][p]) {
                return false;
            }
        }
        return true;
    }

    // ---- DRAWS ----

    int values(long draw, int d, int e) {
        int values = 0;
        for (int p = 0; p < n; p++) {
            int number = (int) (draw >> 4 * p & 15);
            boolean one = in(d, p) ? in(e, p) : number < weight[p][values & parents(p)];
            values |= one ? 1 << p : 0;
        }
        return values;
    }

    /** { above, below } or { -1, -1 }. */
    int[] odds(boolean would, int q, int v, int d, int e, int g, int h) {
        long above = 0;
        long below = 0;
        for (long draw = 0; draw < 1L << 4 * n; draw++) {
            int then = values(draw, d, e);
            int given = would ? values(draw, 0, 0) : then;
            if ((given & g) == h) {
                below++;
                above += (then & q) == v ? 1 : 0;
            }
        }
        if (below == 0) {
            return new int[] {-1, -1};
        }
        for (long f = 2; f <= below; f++) {
            while (above % f == 0 && below % f == 0) {
                above /= f;
                below /= f;
            }
        }
        return new int[] {(int) above, (int) below};
    }

    int effect(int a, int b) {
        int effect = 0;
        for (long draw = 0; draw < 1L << 4 * n; draw++) {
            effect += in(values(draw, 1 << a, 1 << a), b) ? 1 : 0;
            effect -= in(values(draw, 1 << a, 0), b) ? 1 : 0;
        }
        return effect;
    }

    int swayed(int a, int b) {
        int swayed = 0;
        for (long draw = 0; draw < 1L << 4 * n; draw++) {
            swayed += in(values(draw, 1 << a, 1 << a), b) && !in(values(draw, 1 << a, 0), b) ? 1 : 0;
        }
        return swayed;
    }

    private TreeMap<Integer, Integer> spread(int set, int d, int e) {
        TreeMap<Integer, Integer> spread = new TreeMap<>();
        for (long draw = 0; draw < 1L << 4 * n; draw++) {
            spread.merge(values(draw, d, e) & set, 1, Integer::sum);
        }
        return spread;
    }

    boolean alike(Reference that, int what) {
        if (n != that.n) {
            return false;
        }
        if (what == 0) {
            return shape(arrow).equals(shape(that.arrow));
        }
        int set = what == 3 ? ~(hidden | that.hidden) : -1;
        boolean same = spread(set, 0, 0).equals(that.spread(set, 0, 0));
        for (int p = 0; p < n && what == 2; p++) {
            same &= spread(set, 1 << p, 0).equals(that.spread(set, 1 << p, 0));
            same &= spread(set, 1 << p, 1 << p).equals(that.spread(set, 1 << p, 1 << p));
        }
        return same;
    }
}
