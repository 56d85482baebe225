/**
 * The bounds that the document names for what an object holds: NONE and BAD, part 1 of the terms, promises 1 to 5, 18
 * and 19. Each function is one sentence of the document; what is refused changes nothing.
 */
public final class StateBoundsTest {
    private static final Due D = new Due();

    public static void main(String[] args) {
        constants();
        aNewObjectHasOnePlace();
        objectsShareNothing();
        beginWithinBounds();
        beginBeyondBounds();
        beginForgetsAllOfThisOne();
        parentsOfLesserNumber();
        parentsOfNoPlace();
        parentsMakeAllWeightsEven();
        weightsFromNoneToAll();
        weightsBeyondBounds();
        weightsOfRowsThatAreNot();
        weightsOfNoPlace();
        hideEachPlace();
        hideNoPlace();
        swapOfLeastAndMost();
        keepOfLeastAndMost();
        refusedForTwoReasons();
        theLastCall();
        allCallsToTheLast();
        D.end();
    }

    /** "NONE = -1, BAD = -2". */
    private static void constants() {
        D.due("NONE", ActSurgery.NONE, -1);
        D.due("BAD", ActSurgery.BAD, -2);
        D.due("NONE as an answer", Due.graph(0, 1).parting(0, 1), -1);
        D.due("BAD as an answer", new ActSurgery().begin(0), -2);
    }

    /** Promise 1: "One PLACE, without PARENTS, its WEIGHT 8; none HIDDEN; THE OTHER likewise." */
    private static void aNewObjectHasOnePlace() {
        Reference one = new Reference(1);
        String due = Snapshot.of(new Sample(one, one).get());
        D.due("a new object is as begun", Snapshot.of(new ActSurgery()).equals(due) ? 1 : 0, 1);
        for (int side = 0; side < 2; side++) {
            ActSurgery x = new ActSurgery();
            if (side == 1) {
                x.swap();
            }
            D.due("PLACES of a new object", x.count(0), 1);
            D.due("no PLACE 1 in a new object", x.of(1, 0), -2);
            D.due("PARENTS in a new object", x.of(0, 0), 0);
            D.due("HIDDEN in a new object", x.count(2), 0);
            D.due("WEIGHT in a new object", x.weight(0, 0, 0), 8);
        }
    }

    private static void objectsShareNothing() {
        ActSurgery first = new ActSurgery();
        ActSurgery second = new ActSurgery();
        first.begin(6);
        first.weight(0, 0, 1);
        first.hide(0, true);
        first.keep();
        D.due("another object stays new", Snapshot.of(second).equals(Snapshot.of(new ActSurgery())) ? 1 : 0, 1);
    }

    /** "n 1 .. 6", promise 2: "how many there were". */
    private static void beginWithinBounds() {
        for (int were = 1; were <= 6; were++) {
            for (int n = 1; n <= 6; n++) {
                ActSurgery x = Sample.of(were, 0).get();
                D.due("begin(" + n + ") of " + were, x.begin(n), were);
                D.due("PLACES", x.count(0), n);
                D.due("the last PLACE", x.of(n - 1, 0), 0);
                D.due("beyond the last PLACE", x.of(n, 0), -2);
            }
        }
    }

    /** "n 1 .. 6", promise 2: "BAD." */
    private static void beginBeyondBounds() {
        for (int were = 1; were <= 6; were++) {
            Sample made = Sample.of(were, 1);
            for (int n : Edges.beyond(1, 6)) {
                D.refused("begin(" + n + ") of " + were, made, x -> x.begin(n));
            }
        }
    }

    /** Promise 2: "n PLACES, without PARENTS, all WEIGHTS 8, none HIDDEN", the same n, too; THE OTHER stays. */
    private static void beginForgetsAllOfThisOne() {
        for (int were = 1; were <= 6; were++) {
            for (int n = 1; n <= 6; n++) {
                Sample made = Sample.of(were, Edges.all(were));
                ActSurgery x = made.get();
                x.begin(n);
                String due = Snapshot.of(new Sample(new Reference(n), made.there).get());
                D.due("all new after begin(" + n + ") of " + were, Snapshot.of(x).equals(due) ? 1 : 0, 1);
            }
        }
    }

    /** "PARENTS among the PLACES of lesser number", promise 3: "BAD: also one of no lesser number." */
    private static void parentsOfLesserNumber() {
        for (int n = 1; n <= 6; n++) {
            Sample made = Sample.of(n, 1 << n - 1);
            for (int place = 0; place < n; place++) {
                int p = place;
                for (int s = 0; s <= Edges.all(n + 1); s++) {
                    int set = s;
                    if (set < 1 << p) {
                        ActSurgery x = made.get();
                        D.due("parents(" + p + ", " + set + ")", x.parents(p, set), made.here.parents(p));
                        D.due("PARENTS", x.of(p, 0), set);
                    } else {
                        D.refused("parents(" + p + ", " + set + ") of " + n, made, x -> x.parents(p, set));
                    }
                }
                for (int set : Edges.notWithin(Edges.all(p))) {
                    D.refused("parents(" + p + ", " + set + ") of " + n, made, x -> x.parents(p, set));
                }
            }
        }
    }

    /** Promise 3: "BAD" of a number that is no PLACE, also with the empty set. */
    private static void parentsOfNoPlace() {
        for (int n = 1; n <= 6; n++) {
            Sample made = Sample.of(n, 1);
            for (int p : Edges.notPlaces(n)) {
                D.refused("parents(" + p + ", 0) of " + n, made, x -> x.parents(p, 0));
                D.refused("parents(" + p + ", 1) of " + n, made, x -> x.parents(p, 1));
            }
        }
    }

    /** Promise 3: "all its WEIGHTS are 8", from the empty set to all lesser PLACES and back; of others they stay. */
    private static void parentsMakeAllWeightsEven() {
        for (int p = 0; p < 6; p++) {
            for (int set : new int[] {0, Edges.all(p)}) {
                for (int had : new int[] {0, Edges.all(p)}) {
                    Sample made = Sample.of(6, 9);
                    ActSurgery x = made.get();
                    x.parents(p, had);
                    x.weight(p, 0, 1);
                    x.weight(p, had, 2);
                    D.due("parents(" + p + ", " + set + ")", x.parents(p, set), had);
                    for (int q = 0; q < 6; q++) {
                        made.here.arrow[q][p] = Reference.in(set, q);
                    }
                    java.util.Arrays.fill(made.here.weight[p], 8);
                    String due = Snapshot.of(made.get());
                    D.due("only the WEIGHTS of " + p + " are 8", Snapshot.of(x).equals(due) ? 1 : 0, 1);
                }
            }
        }
    }

    /** "a WEIGHT, 0 .. 16", "its VALUE is 1 if its number is less than the WEIGHT", promise 4: "what it was". */
    private static void weightsFromNoneToAll() {
        for (int p = 0; p < 6; p++) {
            int[] parents = new int[6];
            parents[p] = Edges.all(p);
            for (int row : new int[] {0, Edges.all(p)}) {
                ActSurgery x = Due.graph(parents);
                int was = 8;
                for (int w : new int[] {0, 16, 1, 15, 15, 0, 8}) {
                    D.due("weight(" + p + ", " + row + ", " + w + ")", x.weight(p, row, w), was);
                    was = w;
                }
            }
        }
        int[][] due = {{0, 0, 1}, {1, 1, 16}, {2, 1, 8}, {15, 15, 16}, {16, 1, 1}};
        for (int[] d : due) {
            ActSurgery x = new ActSurgery();
            x.weight(0, 0, d[0]);
            D.due("above of the WEIGHT " + d[0], x.odds(1, 1, 0, 0, 0, 0, 0), d[1]);
            D.due("below of the WEIGHT " + d[0], x.odds(1, 1, 0, 0, 0, 0, 1), d[2]);
        }
    }

    /** "a WEIGHT, 0 .. 16", promise 4: "BAD." */
    private static void weightsBeyondBounds() {
        for (int n = 1; n <= 6; n++) {
            Sample made = Sample.of(n, 1);
            for (int p = 0; p < n; p++) {
                int place = p;
                for (int w : Edges.beyond(0, 16)) {
                    D.refused("weight(" + p + ", 0, " + w + ")", made, x -> x.weight(place, 0, w));
                    int last = made.here.parents(p);
                    D.refused("weight(" + p + ", " + last + ", " + w + ")", made, x -> x.weight(place, last, w));
                }
            }
        }
    }

    /** "VALUES of a set likewise (only bits of the set may be on)", promise 4: "BAD." */
    private static void weightsOfRowsThatAreNot() {
        for (int set = 0; set < 32; set++) {
            Reference here = new Reference(6);
            for (int q = 0; q < 5; q++) {
                here.arrow[q][5] = Reference.in(set, q);
            }
            Sample made = new Sample(here, new Reference(1));
            for (int v = 0; v < 64; v++) {
                int values = v;
                if ((values & ~set) == 0) {
                    ActSurgery x = made.get();
                    D.due("ROW " + values + " of " + set, x.weight(5, values, 3), 8);
                    D.due("ROW " + values + " of " + set + " again", x.weight(5, values, 4), 3);
                } else {
                    D.refused("ROW " + values + " of " + set, made, x -> x.weight(5, values, 3));
                }
            }
            for (int values : Edges.notWithin(set)) {
                D.refused("ROW " + values + " of " + set, made, x -> x.weight(5, values, 3));
            }
        }
        for (int n = 1; n <= 6; n++) {
            Sample none = new Sample(new Reference(n), new Reference(1));
            for (int p = 0; p < n; p++) {
                int place = p;
                D.due("the one ROW of no PARENTS", none.get().weight(p, 0, 3), 8);
                D.refused("a ROW of itself", none, x -> x.weight(place, 1 << place, 3));
                D.refused("a ROW of no PARENTS", none, x -> x.weight(place, 1, 3));
            }
        }
    }

    /** Promise 4: "BAD" of a number that is no PLACE. */
    private static void weightsOfNoPlace() {
        for (int n = 1; n <= 6; n++) {
            Sample made = Sample.of(n, 1);
            for (int p : Edges.notPlaces(n)) {
                D.refused("weight(" + p + ", 0, 5) of " + n, made, x -> x.weight(p, 0, 5));
            }
        }
    }

    /** Promise 5: "A PLACE is HIDDEN or not: whether it was (1 or 0)." */
    private static void hideEachPlace() {
        for (int n = 1; n <= 6; n++) {
            for (int p = 0; p < n; p++) {
                for (int hidden : new int[] {0, 1 << p, Edges.all(n) & ~(1 << p), Edges.all(n)}) {
                    int was = hidden >> p & 1;
                    Sample made = Sample.of(n, hidden);
                    ActSurgery x = made.get();
                    D.due("hide(" + p + ", true)", x.hide(p, true), was);
                    D.due("all that is HIDDEN", x.count(2), hidden | 1 << p);
                    D.due("hide(" + p + ", true) again", x.hide(p, true), 1);
                    D.due("hide(" + p + ", false)", x.hide(p, false), 1);
                    D.due("all that is HIDDEN", x.count(2), hidden & ~(1 << p));
                    D.due("hide(" + p + ", false) again", x.hide(p, false), 0);
                    int place = p;
                    D.leaves("hide(" + p + ") as it is", made, y -> y.hide(place, was == 1), was);
                }
            }
        }
    }

    /** Promise 5: "BAD." */
    private static void hideNoPlace() {
        for (int n = 1; n <= 6; n++) {
            Sample seen = Sample.of(n, 0);
            Sample hidden = Sample.of(n, Edges.all(n));
            for (int p : Edges.notPlaces(n)) {
                D.refused("hide(" + p + ", true) of " + n, seen, x -> x.hide(p, true));
                D.refused("hide(" + p + ", false) of " + n, hidden, x -> x.hide(p, false));
            }
        }
    }

    /** Promise 18: "This graph .. and THE OTHER change places: n of what is this one now." */
    private static void swapOfLeastAndMost() {
        for (int n = 1; n <= 6; n++) {
            Sample made = Sample.of(n, 1 << n - 1);
            ActSurgery x = made.get();
            D.due("swap() of " + n, x.swap(), 7 - n);
            String due = Snapshot.of(new Sample(made.there, made.here).get());
            D.due("all changed places", Snapshot.of(x).equals(due) ? 1 : 0, 1);
            x = made.get();
            x.swap();
            D.due("swap() back", x.swap(), n);
            D.due("all is back", Snapshot.of(x).equals(Snapshot.of(made.get())) ? 1 : 0, 1);
        }
    }

    /** Promise 19: "THE OTHER becomes as this one: n." */
    private static void keepOfLeastAndMost() {
        for (int n = 1; n <= 6; n++) {
            Sample made = Sample.of(n, 1 << n - 1);
            ActSurgery x = made.get();
            D.due("keep() of " + n, x.keep(), n);
            String due = Snapshot.of(new Sample(made.here, made.here).get());
            D.due("both are as this one", Snapshot.of(x).equals(due) ? 1 : 0, 1);
            for (int side = 0; side < 2; side++) {
                ActSurgery y = made.get();
                y.keep();
                if (side == 1) {
                    y.swap();
                }
                y.weight(0, 0, 0);
                y.hide(0, false);
                y.begin(7 - n);
                D.due("the kept one stays", y.swap(), n);
                String kept = Snapshot.of(new Sample(made.here, new Reference(7 - n)).get());
                D.due("all of the kept one stays", Snapshot.of(y).equals(kept) ? 1 : 0, 1);
            }
        }
    }

    /** "BAD ... What is refused changes nothing", if more than one number is wrong. */
    private static void refusedForTwoReasons() {
        int least = Integer.MIN_VALUE;
        int most = Integer.MAX_VALUE;
        for (int n = 1; n <= 6; n++) {
            Sample made = Sample.of(n, 1);
            int m = n;
            for (int wrong : new int[] {-1, least, most}) {
                D.refused("parents, both", made, x -> x.parents(wrong, wrong));
                D.refused("parents beyond, set", made, x -> x.parents(m, wrong));
                D.refused("weight, all", made, x -> x.weight(wrong, wrong, wrong));
                D.refused("weight, PLACE and ROW", made, x -> x.weight(m, wrong, 8));
                D.refused("weight, PLACE and w", made, x -> x.weight(m, 0, wrong));
                D.refused("weight, ROW and w", made, x -> x.weight(m - 1, wrong, 17));
            }
        }
    }

    /** "An object is used for at most 512 calls": the last of them is as good as the first. */
    private static void theLastCall() {
        ActSurgery x = new ActSurgery();
        for (int call = 1; call < 510; call++) {
            x.begin(1 + call % 6);
        }
        D.due("call 510", x.begin(6), 6);
        D.due("call 511", x.parents(5, 31), 0);
        D.due("call 512", x.swap(), 1);
    }

    /** The same, of all methods but swap(): 2 calls, and 30 rounds of 17 that answer the same. */
    private static void allCallsToTheLast() {
        ActSurgery x = new ActSurgery();
        x.begin(6);
        x.keep();
        String due = round(x);
        for (int round = 2; round <= 30; round++) {
            D.due("round " + round + " is as the first (1 or 0)", round(x).equals(due) ? 1 : 0, 1);
        }
    }

    private static String round(ActSurgery x) {
        int[] answers = {x.parents(5, 31), x.weight(5, 31, 16), x.hide(0, true), x.count(3), x.of(0, 5),
            x.parted(0, 1, 32), x.parting(0, 1), x.ways(0, 1, 32), x.tells(0, 1, 5, 0), x.telling(0, 1, 5), x.told(1),
            x.odds(32, 32, 1, 1, 2, 2, 0), x.would(32, 0, 1, 1, 2, 2, 1), x.effect(0, 5), x.swayed(0, 5), x.alike(2),
            x.begin(6)};
        return java.util.Arrays.toString(answers);
    }
}
