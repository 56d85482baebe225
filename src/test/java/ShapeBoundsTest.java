/**
 * The bounds that the document names for counts, sets of a PLACE, and this one beside THE OTHER: part 3 of the terms,
 * promises 6, 7 and 20. Each function is one sentence of the document; what is refused changes nothing.
 */
public final class ShapeBoundsTest {
    private static final Due D = new Due();

    public static void main(String[] args) {
        countWithinBounds();
        countBeyondBounds();
        countOfArrows();
        countOfHidden();
        countOfLikeOnes();
        likeOnesMayGoToLesserPlaces();
        countOfSureArrows();
        countOfClumps();
        countOfPartedPairs();
        ofWithinBounds();
        ofNoPlace();
        ofBeyondBounds();
        ofTheFirstAndTheLast();
        ofClumps();
        ofSureArrows();
        alikeWithinBounds();
        alikeBeyondBounds();
        alikeWithOtherNumbersOfPlaces();
        alikeShapes();
        alikeByTheLeastWeight();
        alikeByOneAct();
        alikeWithNoneSeen();
        refusedForTwoReasons();
        D.end();
    }

    /** All ARROWS that n PLACES can have. */
    private static int[] full(int n) {
        int[] parents = new int[n];
        for (int p = 0; p < n; p++) {
            parents[p] = Edges.all(p);
        }
        return parents;
    }

    private static void dueCount(String graph, int what, int want, int... parents) {
        D.due("count(" + what + ") of " + graph, Due.graph(parents).count(what), want);
    }

    private static ActSurgery hiding(int hidden, int... parents) {
        ActSurgery x = Due.graph(parents);
        for (int p = 0; p < parents.length; p++) {
            x.hide(p, Reference.in(hidden, p));
        }
        return x;
    }

    /** Promise 6: "What = 0 n, .. 6 pairs": asking changes nothing. */
    private static void countWithinBounds() {
        for (int n = 1; n <= 6; n++) {
            Sample made = Sample.of(n, 1);
            Reference r = made.here;
            int[][] like = r.like();
            int arrows = 0;
            int sure = 0;
            for (int p = 0; p < n; p++) {
                arrows += Integer.bitCount(r.parents(p));
                for (int q = 0; q < n; q++) {
                    sure += like[1 + p][q] == like[0][0] ? 1 : 0;
                }
            }
            int[] due = {n, arrows, 1, like[0][0], sure, r.clumps(), r.partedPairs()};
            for (int what = 0; what < 7; what++) {
                int asked = what;
                D.leaves("count(" + what + ") of " + n, made, x -> x.count(asked), due[what]);
            }
        }
        int[] least = {1, 0, 0, 1, 0, 1, 0};
        for (int what = 0; what < 7; what++) {
            int asked = what;
            D.leaves("count(" + what + ") of a new object", ActSurgery::new, x -> x.count(asked), least[what]);
        }
    }

    /** Promise 6: "BAD." */
    private static void countBeyondBounds() {
        for (int n = 1; n <= 6; n++) {
            Sample made = Sample.of(n, 1);
            for (int what : Edges.beyond(0, 6)) {
                D.refused("count(" + what + ") of " + n, made, x -> x.count(what));
            }
        }
    }

    /** Promise 6: "1 ARROWS", from none to one between each two. */
    private static void countOfArrows() {
        for (int n = 1; n <= 6; n++) {
            dueCount("none of " + n, 1, 0, new int[n]);
            dueCount("all of " + n, 1, n * (n - 1) / 2, full(n));
        }
    }

    /** Promise 6: "2 the set of those that are HIDDEN", from none to all. */
    private static void countOfHidden() {
        for (int n = 1; n <= 6; n++) {
            for (int hidden = 0; hidden < 1 << n; hidden++) {
                D.due("HIDDEN of " + n, hiding(hidden, full(n)).count(2), hidden);
            }
        }
    }

    /** Promise 6: "3 how many GRAPHS are LIKE this one (itself, too)". */
    private static void countOfLikeOnes() {
        int[] orders = {1, 1, 2, 6, 24, 120, 720};
        for (int n = 1; n <= 6; n++) {
            dueCount("no ARROWS of " + n, 3, 1, new int[n]);
            dueCount("all ARROWS of " + n, 3, orders[n], full(n));
        }
        dueCount("a MEETING", 3, 1, 0, 0, 3);
        dueCount("a MEETING of five", 3, 1, 0, 0, 0, 0, 0, 31);
        // WEIGHTS and what is HIDDEN have no part in it.
        D.due("count(3) with HIDDEN ones", hiding(7, 0, 1, 2).count(3), 3);
    }

    /** "GRAPHS of n PLACES whose ARROWS make no ring (they may go to lesser PLACES)". */
    private static void likeOnesMayGoToLesserPlaces() {
        dueCount("one ARROW", 3, 2, 0, 1);
        dueCount("one ARROW of six", 3, 2, 0, 0, 0, 0, 0, 1);
        dueCount("three ARROWS, of which two ways round would be rings", 3, 6, 0, 1, 3);
        dueCount("a fork", 3, 3, 0, 1, 1);
        // Four in a ring with one MEETING: the ring itself is none.
        dueCount("a square", 3, 3, 0, 1, 1, 6);
        dueCount("two pairs", 3, 4, 0, 1, 0, 4);
        D.due("none is SURE that may go to a lesser PLACE", Due.graph(0, 1).of(0, 5), 0);
    }

    /** Promise 6: "4 SURE ARROWS", "SURE, if all GRAPHS that are LIKE this one have it", from none to all. */
    private static void countOfSureArrows() {
        for (int n = 1; n <= 6; n++) {
            dueCount("no ARROWS of " + n, 4, 0, new int[n]);
            dueCount("all ARROWS of " + n, 4, 0, full(n));
        }
        dueCount("a MEETING of two", 4, 2, 0, 0, 3);
        dueCount("a MEETING of two with an ARROW between", 4, 0, 0, 1, 3);
        dueCount("a MEETING of five", 4, 5, 0, 0, 0, 0, 0, 31);
        dueCount("what is made by three, each", 4, 9, 0, 0, 0, 7, 7, 7);
        dueCount("a MEETING and a row on from it", 4, 5, 0, 0, 3, 4, 8, 16);
        dueCount("a row on to a MEETING", 4, 2, 0, 1, 2, 0, 12);
    }

    /** Promise 6: "5 CLUMPS", of seen PLACES: from each alone to none. */
    private static void countOfClumps() {
        for (int n = 1; n <= 6; n++) {
            D.due("CLUMPS with none HIDDEN", hiding(0, full(n)).count(5), n);
            D.due("CLUMPS with all HIDDEN", hiding(Edges.all(n), full(n)).count(5), 0);
            D.due("CLUMPS with all but the last HIDDEN", hiding(Edges.all(n - 1), full(n)).count(5), 1);
            D.due("CLUMPS with the first HIDDEN", hiding(1, full(n)).count(5), n == 1 ? 0 : 1);
            D.due("CLUMPS with the last HIDDEN", hiding(1 << n - 1, full(n)).count(5), n - 1);
            D.due("CLUMPS with the first HIDDEN that makes none", hiding(1, new int[n]).count(5), n - 1);
        }
        D.due("a HIDDEN one that makes one alone", hiding(1, 0, 1, 0).count(5), 2);
    }

    /** Promise 6: "6 pairs of PLACES that some set parts", each pair once, from none to all. */
    private static void countOfPartedPairs() {
        for (int n = 1; n <= 6; n++) {
            dueCount("no ARROWS of " + n, 6, n * (n - 1) / 2, new int[n]);
            dueCount("all ARROWS of " + n, 6, 0, full(n));
        }
        dueCount("a MEETING, by the empty set alone", 6, 1, 0, 0, 3);
        // 0 and 5 are parted by all others alone; 1 .. 4 by 0 alone, each two of them.
        dueCount("four side by side", 6, 7, 0, 1, 1, 1, 1, 30);
        D.due("count(6) by a HIDDEN one", hiding(2, 0, 1, 2).count(6), 1);
        D.due("count(6) of HIDDEN ones", hiding(7, 0, 1, 2).count(6), 1);
    }

    /** Promise 7: "what = 0 its PARENTS, .. 5 to which of its ARROWS are SURE": asking changes nothing. */
    private static void ofWithinBounds() {
        for (int n = 1; n <= 6; n++) {
            Sample made = Sample.of(n, 1);
            for (int p = 0; p < n; p++) {
                Reference r = made.here;
                int[] due = {r.parents(p), 0, r.after(p), r.before(p), r.clump(p), 0};
                int[][] like = r.like();
                for (int q = 0; q < n; q++) {
                    due[1] |= r.arrow[p][q] ? 1 << q : 0;
                    due[5] |= like[1 + p][q] == like[0][0] ? 1 << q : 0;
                }
                for (int what = 0; what < 6; what++) {
                    int place = p;
                    int asked = what;
                    D.leaves("of(" + p + ", " + what + ") of " + n, made, x -> x.of(place, asked), due[what]);
                }
            }
        }
        for (int what = 0; what < 6; what++) {
            int asked = what;
            D.leaves("of(0, " + what + ") of a new object", ActSurgery::new, x -> x.of(0, asked), what == 4 ? 1 : 0);
        }
    }

    /** Promise 7: "BAD" of a number that is no PLACE. */
    private static void ofNoPlace() {
        for (int n = 1; n <= 6; n++) {
            Sample made = Sample.of(n, 1);
            for (int p : Edges.notPlaces(n)) {
                for (int what = 0; what < 6; what++) {
                    int asked = what;
                    D.refused("of(" + p + ", " + what + ") of " + n, made, x -> x.of(p, asked));
                }
            }
        }
    }

    /** Promise 7: "BAD" of another what, of the first PLACE and the last, a HIDDEN and a seen one. */
    private static void ofBeyondBounds() {
        for (int n = 1; n <= 6; n++) {
            Sample made = Sample.of(n, 1);
            int last = n - 1;
            for (int what : Edges.beyond(0, 5)) {
                D.refused("of(0, " + what + ") of " + n, made, x -> x.of(0, what));
                D.refused("of(" + last + ", " + what + ") of " + n, made, x -> x.of(last, what));
            }
        }
    }

    /** "AFTER p: all PLACES that ARROWS lead to from p (one or more)": never p itself, over one ARROW or five. */
    private static void ofTheFirstAndTheLast() {
        ActSurgery x = Due.graph(0, 1, 2, 4, 8, 16);
        int[][] due = {{0, 2, 62, 0}, {16, 0, 0, 31}};
        for (int what = 0; what < 4; what++) {
            D.due("of(0, " + what + ") in a row of six", x.of(0, what), due[0][what]);
            D.due("of(5, " + what + ") in a row of six", x.of(5, what), due[1][what]);
        }
        x = Due.graph(full(6));
        for (int p = 0; p < 6; p++) {
            int lesser = Edges.all(p);
            int greater = 63 & ~lesser & ~(1 << p);
            D.due("PARENTS of all ARROWS", x.of(p, 0), lesser);
            D.due("ARROWS to, of all ARROWS", x.of(p, 1), greater);
            D.due("AFTER, of all ARROWS", x.of(p, 2), greater);
            D.due("what it is AFTER, of all ARROWS", x.of(p, 3), lesser);
        }
    }

    /**
     * Promise 7: "4 the set of its CLUMP (0, if it is HIDDEN)"; "some HIDDEN one leads to both by ARROWS whose PLACES
     * between are all HIDDEN (each way may be an ARROW alone)".
     */
    private static void ofClumps() {
        for (int n = 1; n <= 6; n++) {
            for (int p = 0; p < n; p++) {
                D.due("CLUMP of a HIDDEN one", hiding(1 << p, full(n)).of(p, 4), 0);
                D.due("CLUMP of a seen one, none HIDDEN", hiding(0, full(n)).of(p, 4), 1 << p);
                D.due("CLUMP, all others HIDDEN", hiding(Edges.all(n) & ~(1 << p), full(n)).of(p, 4), 1 << p);
            }
        }
        D.due("by an ARROW alone, both", hiding(1, 0, 1, 1).of(1, 4), 6);
        D.due("by an ARROW alone, and through a HIDDEN one", hiding(5, 0, 1, 1, 4).of(1, 4), 10);
        D.due("through a HIDDEN one, both", hiding(7, 0, 1, 1, 2, 4).of(3, 4), 24);
        D.due("through three HIDDEN ones", hiding(29, 0, 1, 1, 4, 8, 16).of(5, 4), 34);
        D.due("through a seen one, one way", hiding(1, 0, 1, 1, 4).of(3, 4), 8);
        D.due("through a seen one, the rest", hiding(1, 0, 1, 1, 4).of(1, 4), 6);
        D.due("to a HIDDEN one that makes both", hiding(2, 0, 1, 2, 2).of(2, 4), 12);
        D.due("a seen one makes both", hiding(2, 0, 1, 1).of(2, 4), 4);
        D.due("a HIDDEN one that both make", hiding(4, 0, 0, 3).of(0, 4), 1);
        D.due("a HIDDEN one that makes one alone", hiding(1, 0, 1, 2).of(1, 4), 2);
    }

    /** Promise 7: "5 to which of its ARROWS are SURE (the set)". */
    private static void ofSureArrows() {
        ActSurgery x = Due.graph(0, 0, 0, 0, 0, 31);
        for (int p = 0; p < 6; p++) {
            D.due("SURE of a MEETING of five, " + p, x.of(p, 5), p == 5 ? 0 : 32);
        }
        x = Due.graph(0, 1, 2, 0, 12);
        int[] due = {0, 0, 16, 16, 0};
        for (int p = 0; p < 5; p++) {
            D.due("SURE on a row to a MEETING, " + p, x.of(p, 5), due[p]);
        }
        D.due("SURE of a HIDDEN one", hiding(1, 0, 0, 3).of(0, 5), 4);
    }

    private static Sample kept(int n) {
        Reference r = Sample.of(n, 1).here;
        return new Sample(r, r);
    }

    /** Promise 20: "what = 0 .. 3 (1 or 0)": asking changes nothing. */
    private static void alikeWithinBounds() {
        for (int n = 1; n <= 6; n++) {
            Sample same = kept(n);
            for (int what = 0; what < 4; what++) {
                int asked = what;
                D.leaves("alike(" + what + ") of the same " + n, same, x -> x.alike(asked), 1);
            }
        }
        for (int what = 0; what < 4; what++) {
            int asked = what;
            D.leaves("alike(" + what + ") of a new object", ActSurgery::new, x -> x.alike(asked), 1);
        }
    }

    /** Promise 20: "BAD", also if they have not as many PLACES. */
    private static void alikeBeyondBounds() {
        for (int n = 1; n <= 6; n++) {
            Sample same = kept(n);
            Sample unlike = Sample.of(n, 1);
            for (int what : Edges.beyond(0, 3)) {
                D.refused("alike(" + what + ") of the same " + n, same, x -> x.alike(what));
                D.refused("alike(" + what + ") of " + n + " and " + (7 - n), unlike, x -> x.alike(what));
            }
        }
    }

    /** Promise 20: "0, if they have not as many PLACES", for each what, however like they are. */
    private static void alikeWithOtherNumbersOfPlaces() {
        for (int n = 1; n <= 6; n++) {
            for (int m = 1; m <= 6; m++) {
                for (int hidden = 0; hidden < 2; hidden++) {
                    Reference here = new Reference(n);
                    Reference there = new Reference(m);
                    here.hidden = hidden * Edges.all(n);
                    there.hidden = hidden * Edges.all(m);
                    Sample made = new Sample(here, there);
                    for (int what = 0; what < 4; what++) {
                        int asked = what;
                        String call = "alike(" + what + ") of " + n + " and " + m;
                        D.leaves(call, made, x -> x.alike(asked), n == m ? 1 : 0);
                    }
                }
            }
        }
    }

    /** Promise 20: "0 have one SHAPE": WEIGHTS and what is HIDDEN have no part in it; one ARROW has. */
    private static void alikeShapes() {
        for (int n = 1; n <= 6; n++) {
            Reference here = Sample.of(n, 0).here;
            Reference there = new Reference(n);
            there.hidden = Edges.all(n);
            for (int p = 0; p < n; p++) {
                there.arrow[p] = here.arrow[p].clone();
            }
            D.due("one SHAPE of " + n, new Sample(here, there).get().alike(0), 1);
            for (int q = 0; q < n; q++) {
                for (int p = 0; p < q; p++) {
                    there.arrow[p][q] = !there.arrow[p][q];
                    D.due("another ARROW from " + p + " to " + q, new Sample(here, there).get().alike(0), 0);
                    D.due("another ARROW, there", new Sample(there, here).get().alike(0), 0);
                    there.arrow[p][q] = !there.arrow[p][q];
                }
            }
        }
    }

    /** Promise 20: "1 the same ODDS of all VALUES of all PLACES": one ROW's WEIGHT that is another by 1 is enough. */
    private static void alikeByTheLeastWeight() {
        for (int i = 0; i < 36; i++) {
            int n = 1 + i / 6;
            int p = i % 6 % n;
            for (int row : new int[] {0, Edges.all(p)}) {
                ActSurgery x = Due.graph(full(n));
                x.keep();
                x.weight(p, row, 9);
                int[] due = {1, 0, 0, 0};
                for (int what = 0; what < 4; what++) {
                    D.due("alike(" + what + ") by a ROW of " + p, x.alike(what), due[what]);
                }
                x.weight(p, row, 8);
                for (int what = 0; what < 4; what++) {
                    D.due("alike(" + what + ") again", x.alike(what), 1);
                }
            }
        }
    }

    /** Promise 20: "2 also whichever one PLACE is SET to whichever VALUE": each PLACE, each VALUE; one, not two. */
    private static void alikeByOneAct() {
        for (int p = 0; p < 5; p++) {
            for (int value = 0; value < 2; value++) {
                int[] parents = new int[6];
                parents[5] = 1 << p;
                ActSurgery x = Due.graph(parents);
                x.weight(p, 0, value == 0 ? 16 : 0);
                x.keep();
                x.weight(5, value << p, 9);
                D.due("alike(1), PLACE " + p + " never " + value, x.alike(1), 1);
                D.due("alike(2), PLACE " + p + " SET to " + value, x.alike(2), 0);
                D.due("alike(3), PLACE " + p + " never " + value, x.alike(3), 1);
            }
        }
        // 2 asks for both 0 and 1, which are never 1: no one act brings it about, two would.
        ActSurgery x = Due.graph(0, 0, 3);
        x.weight(0, 0, 0);
        x.weight(1, 0, 0);
        x.keep();
        x.weight(2, 3, 16);
        D.due("alike(2) that two acts would tell", x.alike(2), 1);
        x.weight(2, 1, 16);
        D.due("alike(2) that one act tells", x.alike(2), 0);
    }

    /** Promise 20: "3 .. of those that are HIDDEN in none of them": none may be left, or all. */
    private static void alikeWithNoneSeen() {
        for (int hiddenHere = 0; hiddenHere < 8; hiddenHere++) {
            for (int hiddenThere = 0; hiddenThere < 8; hiddenThere++) {
                Reference here = new Reference(3);
                Reference there = new Reference(3);
                here.hidden = hiddenHere;
                there.hidden = hiddenThere;
                here.weight[1][0] = 9;
                int seen = 7 & ~hiddenHere & ~hiddenThere;
                int due = Reference.in(seen, 1) ? 0 : 1;
                ActSurgery x = new Sample(here, there).get();
                D.due("alike(3), HIDDEN " + hiddenHere + " and " + hiddenThere, x.alike(3), due);
                D.due("alike(1) sees all", x.alike(1), 0);
                D.due("alike(2) sees all", x.alike(2), 0);
            }
        }
    }

    private static void refusedForTwoReasons() {
        for (int n = 1; n <= 6; n++) {
            Sample made = Sample.of(n, 1);
            for (int p : Edges.notPlaces(n)) {
                D.refused("of(" + p + ", -1)", made, x -> x.of(p, -1));
                D.refused("of(" + p + ", 6)", made, x -> x.of(p, 6));
                D.refused("of(" + p + ", the greatest)", made, x -> x.of(p, Integer.MAX_VALUE));
            }
        }
    }
}
