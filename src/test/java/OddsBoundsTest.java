/**
 * The bounds that the document names for ODDS, of what is seen, SET, and would have been: part 1 of the terms,
 * promises 14 to 17. Each function is one sentence of the document; what is refused changes nothing.
 */
public final class OddsBoundsTest {
    private static final Due D = new Due();
    private static final int[] PLAIN = {0, 0, 0, 0, 0, 0, 0};

    public static void main(String[] args) {
        everyAskOfOnePlace();
        everyAskOfTwoPlaces();
        setsThatAreNot();
        valuesThatAreNotOfTheSet();
        partsThatAreNot();
        emptyAndFullSets();
        lowestTerms();
        noneGiven();
        noneGivenAsItIs();
        refusedBeforeNone();
        pairsWithinBounds();
        pairsOfNoPlace();
        pairsOfTheSame();
        effectFromLeastToMost();
        swayedFromNoneToAll();
        refusedForTwoReasons();
        D.end();
    }

    private static int ask(ActSurgery x, boolean would, int... a) {
        if (would) {
            return x.would(a[0], a[1], a[2], a[3], a[4], a[5], a[6]);
        }
        return x.odds(a[0], a[1], a[2], a[3], a[4], a[5], a[6]);
    }

    private static String told(boolean would, int... a) {
        return (would ? "would" : "odds") + java.util.Arrays.toString(a);
    }

    private static void refused(Sample made, int... a) {
        D.refused(told(false, a), made, x -> ask(x, false, a));
        D.refused(told(true, a), made, x -> ask(x, true, a));
    }

    private static int[] with(int[] from, int at, int number) {
        int[] a = from.clone();
        a[at] = number;
        return a;
    }

    private static boolean isBad(int n, int[] a) {
        boolean bad = a[6] < 0 || a[6] > 1;
        for (int i = 0; i < 6; i += 2) {
            bad |= (a[i] & ~Edges.all(n)) != 0 || (a[i + 1] & ~a[i]) != 0;
        }
        return bad;
    }

    /** Every row of seven numbers from the least to the most, of this graph: BAD, NONE, or the ODDS. */
    private static void everyAsk(Reference r, int least, int most) {
        Fresh x = new Fresh(r::made);
        int numbers = most - least + 1;
        int asks = 1;
        for (int i = 0; i < 6; i++) {
            asks *= numbers;
        }
        for (int i = 0; i < asks; i++) {
            int[] a = new int[7];
            int rest = i;
            for (int k = 0; k < 6; k++) {
                a[k] = least + rest % numbers;
                rest /= numbers;
            }
            for (int would = 0; would < 2; would++) {
                int[] due = isBad(r.n, a) ? new int[] {-2, -2} : r.odds(would == 1, a[0], a[1], a[2], a[3], a[4], a[5]);
                for (int part = -1; part <= 2; part++) {
                    a[6] = part;
                    int want = part == 0 || part == 1 ? due[part] : -2;
                    D.due(told(would == 1, a), ask(x.next(), would == 1, a), want);
                    a[6] = 0;
                }
            }
        }
    }

    /** Promises 14 and 15: "part 0 above, 1 below. NONE; BAD.", of one PLACE with the least WEIGHT to the most. */
    private static void everyAskOfOnePlace() {
        for (int w : new int[] {0, 1, 6, 16}) {
            Reference r = new Reference(1);
            r.weight[0][0] = w;
            everyAsk(r, -1, 2);
        }
    }

    /** The same of two PLACES, the one the other's PARENT. */
    private static void everyAskOfTwoPlaces() {
        Reference r = new Reference(2);
        r.arrow[0][1] = true;
        r.weight[0][0] = 6;
        r.weight[1][0] = 16;
        r.weight[1][1] = 3;
        everyAsk(r, -1, 4);
    }

    /** "a set that is not of PLACES": q, d and g. */
    private static void setsThatAreNot() {
        for (int n = 1; n <= 6; n++) {
            Sample made = Sample.of(n, 1);
            for (int set : Edges.notWithin(Edges.all(n))) {
                for (int at = 0; at < 6; at += 2) {
                    refused(made, with(PLAIN, at, set));
                    refused(made, with(with(PLAIN, at, set), at + 1, 1 << n - 1 & set));
                }
            }
        }
    }

    /** "VALUES that are not of the set": v, e and h, of the empty set, of one, and of all. */
    private static void valuesThatAreNotOfTheSet() {
        for (int n = 1; n <= 6; n++) {
            Sample made = Sample.of(n, 1);
            for (int set : new int[] {0, 1, 1 << n - 1, Edges.all(n) & ~1, Edges.all(n)}) {
                for (int values : Edges.notWithin(set)) {
                    for (int at = 0; at < 6; at += 2) {
                        refused(made, with(with(PLAIN, at, set), at + 1, values));
                    }
                }
            }
        }
    }

    /** "part 0 above, 1 below". */
    private static void partsThatAreNot() {
        for (int n = 1; n <= 6; n++) {
            Sample made = Sample.of(n, 1);
            int all = Edges.all(n);
            for (int part : Edges.beyond(0, 1)) {
                refused(made, with(PLAIN, 6, part));
                refused(made, all, all, 0, 0, 0, 0, part);
            }
        }
    }

    private static void dueBoth(Sample made, boolean would, int above, int below, int... a) {
        D.leaves(told(would, a), made, x -> ask(x, would, with(a, 6, 0)), above);
        D.leaves(told(would, a) + " below", made, x -> ask(x, would, with(a, 6, 1)), below);
    }

    /** The empty set and the set of all PLACES, for q, d and g: asking changes nothing. */
    private static void emptyAndFullSets() {
        for (int n = 1; n <= 6; n++) {
            Sample made = new Sample(new Reference(n), new Reference(7 - n));
            int all = Edges.all(n);
            for (int i = 0; i < 2; i++) {
                boolean would = i == 1;
                dueBoth(made, would, 1, 1, PLAIN);
                dueBoth(made, would, 1, 1 << n, all, 0, 0, 0, 0, 0, 0);
                dueBoth(made, would, 1, 1 << n, all, all, 0, 0, 0, 0, 0);
                dueBoth(made, would, 1, 1, 0, 0, all, all, 0, 0, 0);
                dueBoth(made, would, 1, 1, 0, 0, 0, 0, all, all, 0);
                dueBoth(made, would, 1, 1, all, all, all, all, 0, 0, 0);
                dueBoth(made, would, 0, 1, all, 0, all, all, 0, 0, 0);
                dueBoth(made, would, 1, 1, all, all, 0, 0, all, all, 0);
                dueBoth(made, would, 0, 1, all, 0, 0, 0, all, all, 0);
                dueBoth(made, would, 1, 1, all, all, all, all, all, all, 0);
            }
            // GIVEN with all SET otherwise: no DRAW; GIVEN as it is: what was makes no odds to what is SET.
            dueBoth(made, false, -1, -1, all, all, all, all, all, 0, 0);
            dueBoth(made, true, 1, 1, all, all, all, all, all, 0, 0);
        }
    }

    /** "ODDS are parts of all 16 to the n DRAWS, told in lowest terms (above, below)": none, one, all but one, all. */
    private static void lowestTerms() {
        for (int n = 1; n <= 6; n++) {
            int draws = 1 << 4 * n;
            Reference r = new Reference(n);
            for (int p = 0; p < n; p++) {
                r.weight[p][0] = 1;
            }
            Sample made = new Sample(r, new Reference(1));
            int all = Edges.all(n);
            for (int i = 0; i < 2; i++) {
                boolean would = i == 1;
                dueBoth(made, would, 1, draws, all, all, 0, 0, 0, 0, 0);
                dueBoth(made, would, 1, 16, 1, 1, 0, 0, 0, 0, 0);
                dueBoth(made, would, 15, 16, 1, 0, 0, 0, 0, 0, 0);
            }
            // The last one is 0 just if all are 1 before it and its number is 15.
            Reference last = new Reference(n);
            for (int p = 0; p < n; p++) {
                last.weight[p][0] = 1;
                last.arrow[p][n - 1] = p < n - 1;
            }
            java.util.Arrays.fill(last.weight[n - 1], 16);
            last.weight[n - 1][Edges.all(n - 1)] = 15;
            Sample nearly = new Sample(last, new Reference(1));
            dueBoth(nearly, false, draws - 1, draws, 1 << n - 1, 1 << n - 1, 0, 0, 0, 0, 0);
            dueBoth(nearly, false, 1, draws, 1 << n - 1, 0, 0, 0, 0, 0, 0);
            dueBoth(nearly, true, draws - 1, draws, 1 << n - 1, 1 << n - 1, 0, 0, 0, 0, 0);
            dueBoth(nearly, true, 1, draws, 1 << n - 1, 0, 0, 0, 0, 0, 0);
        }
        Reference r = new Reference(1);
        for (int w = 0; w <= 16; w++) {
            r.weight[0][0] = w;
            int below = w == 0 ? 1 : 16 / Integer.lowestOneBit(w);
            dueBoth(new Sample(r, new Reference(1)), false, w * below / 16, below, 1, 1, 0, 0, 0, 0, 0);
        }
        // 15 times 12 of 15 times 16: what is common has 3 and 5 in it.
        Reference odd = new Reference(2);
        odd.weight[0][0] = 15;
        odd.weight[1][0] = 12;
        dueBoth(new Sample(odd, new Reference(1)), false, 3, 4, 2, 2, 0, 0, 1, 1, 0);
        dueBoth(new Sample(odd, new Reference(1)), true, 3, 4, 2, 2, 0, 0, 1, 1, 0);
    }

    /** "of what is GIVEN: of the DRAWS in which that is so (NONE, if there are none of these)", with d SET. */
    private static void noneGiven() {
        for (int p = 0; p < 6; p++) {
            for (int value = 0; value < 2; value++) {
                Reference r = new Reference(6);
                r.weight[p][0] = value == 0 ? 0 : 16;
                Sample made = new Sample(r, new Reference(1));
                int one = 1 << p;
                int is = value << p;
                int not = one & ~is;
                for (int i = 0; i < 2; i++) {
                    boolean would = i == 1;
                    dueBoth(made, would, -1, -1, 0, 0, 0, 0, one, not, 0);
                    dueBoth(made, would, -1, -1, 63, 63, 0, 0, one, not, 0);
                    dueBoth(made, would, -1, -1, one, not, 0, 0, one, not, 0);
                    dueBoth(made, would, -1, -1, 0, 0, 0, 0, 63, not | 63 & ~one, 0);
                    dueBoth(made, would, 1, 1, one, is, 0, 0, one, is, 0);
                    dueBoth(made, would, 0, 1, one, not, 0, 0, one, is, 0);
                }
                // SET to what it never is by itself, it is so.
                dueBoth(made, false, 1, 1, one, not, one, not, one, not, 0);
                dueBoth(made, false, -1, -1, one, is, one, not, one, is, 0);
            }
        }
    }

    /** Promise 15: "GIVEN that g has VALUES h as it is": what d is SET to has no part in it. */
    private static void noneGivenAsItIs() {
        Reference r = new Reference(2);
        r.arrow[0][1] = true;
        r.weight[0][0] = 0;
        r.weight[1][0] = 0;
        r.weight[1][1] = 16;
        Sample made = new Sample(r, new Reference(1));
        dueBoth(made, true, -1, -1, 2, 2, 1, 1, 1, 1, 0);
        dueBoth(made, true, -1, -1, 2, 2, 1, 1, 2, 2, 0);
        dueBoth(made, true, 1, 1, 2, 2, 1, 1, 1, 0, 0);
        dueBoth(made, true, 1, 1, 2, 2, 1, 1, 3, 0, 0);
        dueBoth(made, true, 1, 1, 3, 3, 1, 1, 3, 0, 0);
        dueBoth(made, false, 1, 1, 2, 2, 1, 1, 2, 2, 0);
        dueBoth(made, false, -1, -1, 2, 2, 1, 1, 2, 0, 0);
    }

    /** "BAD .. first; then what a call names": a call that would be NONE, too. */
    private static void refusedBeforeNone() {
        Reference r = new Reference(3);
        r.weight[0][0] = 0;
        Sample made = new Sample(r, new Reference(1));
        int[] none = {2, 2, 4, 4, 1, 1, 0};
        dueBoth(made, false, -1, -1, none);
        dueBoth(made, true, -1, -1, none);
        for (int at = 0; at < 7; at++) {
            for (int wrong : new int[] {-1, 8, 9, Integer.MIN_VALUE, Integer.MAX_VALUE}) {
                refused(made, with(none, at, wrong));
            }
        }
        refused(made, with(none, 6, 2));
    }

    /** Promises 16 and 17: of every two PLACES, and the numbers beside them. */
    private static void pairsWithinBounds() {
        for (int n = 1; n <= 4; n++) {
            Sample made = Sample.of(n, 1);
            for (int i = 0; i < (n + 2) * (n + 2); i++) {
                int a = i % (n + 2) - 1;
                int b = i / (n + 2) - 1;
                boolean bad = a < 0 || b < 0 || a >= n || b >= n || a == b;
                String pair = "(" + a + ", " + b + ") of " + n;
                D.leaves("effect" + pair, made, x -> x.effect(a, b), bad ? -2 : made.here.effect(a, b));
                D.leaves("swayed" + pair, made, x -> x.swayed(a, b), bad ? -2 : made.here.swayed(a, b));
            }
        }
    }

    /** Promises 16 and 17: "BAD" of a number that is no PLACE. */
    private static void pairsOfNoPlace() {
        for (int n = 1; n <= 6; n++) {
            Sample made = Sample.of(n, 1);
            int last = n - 1;
            for (int no : Edges.notPlaces(n)) {
                D.refused("effect(" + no + ", 0) of " + n, made, x -> x.effect(no, 0));
                D.refused("effect(" + last + ", " + no + ") of " + n, made, x -> x.effect(last, no));
                D.refused("swayed(" + no + ", 0) of " + n, made, x -> x.swayed(no, 0));
                D.refused("swayed(" + last + ", " + no + ") of " + n, made, x -> x.swayed(last, no));
            }
        }
    }

    /** Promises 16 and 17: "BAD: also the same." */
    private static void pairsOfTheSame() {
        for (int n = 1; n <= 6; n++) {
            Sample made = Sample.of(n, 1);
            for (int p = 0; p < n; p++) {
                int same = p;
                D.refused("effect(" + p + ", " + p + ") of " + n, made, x -> x.effect(same, same));
                D.refused("swayed(" + p + ", " + p + ") of " + n, made, x -> x.swayed(same, same));
            }
        }
    }

    /** b is 1 by these WEIGHTS, when a is 0 and 1; a is the first of n, b the last. */
    private static Sample made(int n, int when0, int when1) {
        Reference r = new Reference(n);
        r.arrow[0][n - 1] = true;
        r.weight[n - 1][0] = when0;
        r.weight[n - 1][1] = when1;
        return new Sample(r, new Reference(1));
    }

    /** Promise 16: "as parts of 16 to the n (-2 may be so many, too)": from less all to all, and none. */
    private static void effectFromLeastToMost() {
        for (int n = 2; n <= 6; n++) {
            int draws = 1 << 4 * n;
            int last = n - 1;
            int[][] due = {{0, 16, draws}, {16, 0, -draws}, {0, 0, 0}, {16, 16, 0}, {8, 8, 0}, {0, 1, draws / 16},
                {1, 0, -draws / 16}, {16, 15, -draws / 16}, {15, 16, draws / 16}, {3, 11, draws / 2}};
            for (int[] d : due) {
                D.leaves("effect of " + d[0] + " and " + d[1], made(n, d[0], d[1]), x -> x.effect(0, last), d[2]);
                D.leaves("effect back", made(n, d[0], d[1]), x -> x.effect(last, 0), 0);
            }
        }
        // The least that there is, of six: all of five must be as asked for, and one number of b's.
        for (int sign = -1; sign <= 1; sign += 2) {
            Reference r = new Reference(6);
            for (int p = 0; p < 5; p++) {
                r.weight[p][0] = 1;
                r.arrow[p][5] = true;
            }
            java.util.Arrays.fill(r.weight[5], 1);
            r.weight[5][31] = 1 + sign;
            D.leaves("the least effect", new Sample(r, new Reference(1)), x -> x.effect(0, 5), 16 * sign);
        }
    }

    /** Promise 17: "How many DRAWS there are", from none to all; those that sway the other way are not of them. */
    private static void swayedFromNoneToAll() {
        for (int n = 2; n <= 6; n++) {
            int draws = 1 << 4 * n;
            int last = n - 1;
            int[][] due = {{0, 16, draws}, {16, 0, 0}, {0, 0, 0}, {16, 16, 0}, {8, 8, 0}, {0, 1, draws / 16},
                {1, 0, 0}, {15, 16, draws / 16}, {16, 15, 0}, {3, 11, draws / 2}, {11, 3, 0}};
            for (int[] d : due) {
                D.leaves("swayed by " + d[0] + " and " + d[1], made(n, d[0], d[1]), x -> x.swayed(0, last), d[2]);
                D.leaves("swayed back", made(n, d[0], d[1]), x -> x.swayed(last, 0), 0);
            }
        }
    }

    private static void refusedForTwoReasons() {
        for (int n = 1; n <= 6; n++) {
            Sample made = Sample.of(n, Edges.all(n));
            for (int no : Edges.notPlaces(n)) {
                D.refused("effect, the same and no PLACE", made, x -> x.effect(no, no));
                D.refused("swayed, the same and no PLACE", made, x -> x.swayed(no, no));
            }
            for (int no : Edges.notWithin(Edges.all(n))) {
                for (int i = 0; i < 7; i++) {
                    for (int k = 0; k < i; k++) {
                        refused(made, with(with(PLAIN, i, no), k, no));
                    }
                }
                refused(made, no, no, no, no, no, no, no);
            }
        }
    }
}
