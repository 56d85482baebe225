import java.util.function.ToIntFunction;

/**
 * The bounds that the document names for what parts two PLACES and what tells an act's effect: part 2 of the terms,
 * promises 8 to 13. Each function is one sentence of the document; what is refused changes nothing.
 */
public final class WaysBoundsTest {
    private static final Due D = new Due();

    public static void main(String[] args) {
        partedAndWaysOfEveryThree();
        partedAndWaysOfNoPlace();
        partedAndWaysByNoSet();
        partedByNoneAndByAll();
        meetingsAreOpenByWhatIsAfterThem();
        waysFromNoneToMost();
        partingOfEveryTwo();
        partingOfNoPlace();
        partingFromNoneToAll();
        tellsOfEveryFour();
        tellsBeyondBounds();
        tellsOfNoPlace();
        tellsByNoSet();
        tellsOfHiddenOnes();
        backSetsFromNoneToAll();
        backSetsAfter();
        frontSetsAreNotEmpty();
        frontSetsFromOneToAll();
        instrumentsAreOnePlace();
        tellingOfEveryThree();
        tellingBeyondBounds();
        tellingOfNoPlace();
        tellingNone();
        toldOfEveryPlace();
        toldOfNoPlace();
        toldThroughHiddenOnes();
        refusedForTwoReasons();
        D.end();
    }

    private static void asked(String call, Sample made, ToIntFunction<ActSurgery> ask, boolean bad, int want) {
        D.leaves(call, made, ask, bad ? -2 : want);
    }

    private static ActSurgery hiding(int hidden, int... parents) {
        ActSurgery x = Due.graph(parents);
        for (int p = 0; p < parents.length; p++) {
            x.hide(p, Reference.in(hidden, p));
        }
        return x;
    }

    private static boolean isPair(int n, int a, int b) {
        return a >= 0 && a < n && b >= 0 && b < n && a != b;
    }

    /** Promise 8: "BAD: also the same, or in Z." Promise 10: "BAD: as parted()." */
    private static void partedAndWaysOfEveryThree() {
        for (int n = 1; n <= 4; n++) {
            Sample made = Sample.of(n, 1);
            Reference r = made.here;
            for (int i = 0; i < (n + 2) * (n + 2) * ((2 << n) + 1); i++) {
                int a = i % (n + 2) - 1;
                int b = i / (n + 2) % (n + 2) - 1;
                int z = i / (n + 2) / (n + 2) - 1;
                boolean bad = !isPair(n, a, b) || (z & ~Edges.all(n)) != 0 || (z & (1 << a | 1 << b)) != 0;
                String ask = "(" + a + ", " + b + ", " + z + ") of " + n;
                asked("parted" + ask, made, x -> x.parted(a, b, z), bad, bad || !r.parted(a, b, z) ? 0 : 1);
                asked("ways" + ask, made, x -> x.ways(a, b, z), bad, bad ? 0 : r.ways(a, b, z));
            }
        }
    }

    /** Promises 8 and 10: "BAD" of a number that is no PLACE, the first or the second. */
    private static void partedAndWaysOfNoPlace() {
        for (int n = 1; n <= 6; n++) {
            Sample made = Sample.of(n, 1);
            int last = n - 1;
            for (int no : Edges.notPlaces(n)) {
                D.refused("parted(" + no + ", 0, 0) of " + n, made, x -> x.parted(no, 0, 0));
                D.refused("parted(" + last + ", " + no + ", 0) of " + n, made, x -> x.parted(last, no, 0));
                D.refused("ways(" + no + ", 0, 0) of " + n, made, x -> x.ways(no, 0, 0));
                D.refused("ways(" + last + ", " + no + ", 0) of " + n, made, x -> x.ways(last, no, 0));
            }
        }
    }

    /** "a set that is not of PLACES". */
    private static void partedAndWaysByNoSet() {
        for (int n = 2; n <= 6; n++) {
            Sample made = Sample.of(n, 1);
            int last = n - 1;
            for (int z : Edges.notWithin(Edges.all(n))) {
                D.refused("parted(0, " + last + ", " + z + ")", made, x -> x.parted(0, last, z));
                D.refused("ways(" + last + ", 0, " + z + ")", made, x -> x.ways(last, 0, z));
            }
        }
    }

    /** "a and b (different, not in Z) are PARTED by Z, if no WAY is OPEN", Z from the empty set to all others. */
    private static void partedByNoneAndByAll() {
        for (int n = 2; n <= 6; n++) {
            int others = Edges.all(n) & ~1 & ~(1 << n - 1);
            int[] row = new int[n];
            int[] wheel = new int[n];
            for (int p = 1; p < n; p++) {
                row[p] = 1 << p - 1;
                wheel[p] = p < n - 1 ? 1 : others | (n == 2 ? 1 : 0);
            }
            ActSurgery none = Due.graph(new int[n]);
            D.due("no ARROWS, by none", none.parted(0, n - 1, 0), 1);
            D.due("no ARROWS, by all others", none.parted(0, n - 1, others), 1);
            ActSurgery x = Due.graph(row);
            D.due("a row of " + n + ", by none", x.parted(0, n - 1, 0), 0);
            D.due("a row of " + n + ", by all others", x.parted(0, n - 1, others), n == 2 ? 0 : 1);
            x = Due.graph(wheel);
            D.due("a wheel of " + n + ", by none", x.parted(n - 1, 0, 0), 0);
            D.due("a wheel of " + n + ", by all others", x.parted(n - 1, 0, others), n == 2 ? 0 : 1);
            for (int p = 1; p < n - 1; p++) {
                D.due("a wheel of " + n + ", by all but one", x.parted(0, n - 1, others & ~(1 << p)), 0);
            }
        }
    }

    /** "a MEETING is in Z, or one that ARROWS lead to from it (one or more) is; and each other one .. is not in Z". */
    private static void meetingsAreOpenByWhatIsAfterThem() {
        ActSurgery x = Due.graph(0, 0, 3, 4, 8, 16);
        int[] due = {0, 0, 1, 1, 1, 1};
        D.due("a MEETING, by none", x.ways(0, 1, 0), 0);
        for (int p = 2; p < 6; p++) {
            D.due("a MEETING, by " + p, x.ways(0, 1, 1 << p), due[p]);
            D.due("a MEETING, by " + p + ", from b", x.ways(1, 0, 1 << p), due[p]);
        }
        D.due("a MEETING, by all others", x.ways(0, 1, 60), 1);
        // What leads to the MEETING, or lies beside it, does not open it: 0 -> 2 <- 1, 3 made by 0, 4 makes nothing.
        x = Due.graph(0, 0, 3, 1, 0);
        D.due("a MEETING, by what lies beside it", x.ways(0, 1, 24), 0);
        x = Due.graph(0, 0, 1, 2, 12);
        D.due("two rows that meet, by what leads to the MEETING", x.ways(0, 1, 4), 0);
        D.due("two rows that meet, by the MEETING", x.ways(0, 1, 16), 1);
        D.due("two rows that meet, closed before it", x.ways(0, 1, 20), 0);
        // b itself comes after the MEETING: it is not in Z.
        x = Due.graph(0, 0, 3, 4);
        D.due("on through the MEETING to b", x.ways(0, 3, 0), 1);
        D.due("closed at what is no MEETING", x.ways(0, 3, 4), 0);
        D.due("with the other maker known", x.ways(0, 3, 2), 1);
    }

    /** Promise 10: "How many WAYS there are", from none to the most; an ARROW alone is one, in either direction. */
    private static void waysFromNoneToMost() {
        D.due("WAYS without ARROWS", Due.graph(0, 0).ways(0, 1, 0), 0);
        D.due("an ARROW alone", Due.graph(0, 1).ways(0, 1, 0), 1);
        D.due("an ARROW alone, from its end", Due.graph(0, 1).ways(1, 0, 0), 1);
        ActSurgery x = Due.graph(0, 1, 3, 7, 15, 31);
        D.due("WAYS from 0 to 5, all rows of ARROWS", x.ways(0, 5, 0), 16);
        D.due("WAYS from 5 to 0", x.ways(5, 0, 0), 16);
        D.due("WAYS from 0 to 5, by all others: the ARROW alone", x.ways(0, 5, 30), 1);
        // The ARROW, and back to a first one and on: each PLACE between is on the way back, on the way on, or on none.
        D.due("WAYS from 4 to 5", x.ways(4, 5, 0), 1 + 27 + 9 + 3 + 1);
        D.due("WAYS between 0 and 1", x.ways(0, 1, 0), 1);
        // The last one opens every MEETING: all rows of different PLACES.
        D.due("WAYS between 0 and 1, by the last", x.ways(0, 1, 32), 1 + 4 + 12 + 24 + 24);
    }

    /** Promise 9: "NONE; BAD": also the same. */
    private static void partingOfEveryTwo() {
        for (int n = 1; n <= 6; n++) {
            Sample made = Sample.of(n, 1);
            for (int i = 0; i < (n + 2) * (n + 2); i++) {
                int a = i % (n + 2) - 1;
                int b = i / (n + 2) - 1;
                boolean bad = !isPair(n, a, b);
                String ask = "parting(" + a + ", " + b + ") of " + n;
                asked(ask, made, x -> x.parting(a, b), bad, bad ? 0 : made.here.parting(a, b));
            }
        }
    }

    /** Promise 9: "BAD" of a number that is no PLACE. */
    private static void partingOfNoPlace() {
        for (int n = 1; n <= 6; n++) {
            Sample made = Sample.of(n, 1);
            int last = n - 1;
            for (int no : Edges.notPlaces(n)) {
                D.refused("parting(" + no + ", 0) of " + n, made, x -> x.parting(no, 0));
                D.refused("parting(" + last + ", " + no + ") of " + n, made, x -> x.parting(last, no));
                D.refused("parting(" + no + ", " + no + ") of " + n, made, x -> x.parting(no, no));
            }
        }
    }

    /** Promise 9: "The set with the fewest PLACES, of several the least number": none, one, all others; "NONE". */
    private static void partingFromNoneToAll() {
        D.due("the empty set is no NONE", Due.graph(0, 0).parting(0, 1), 0);
        D.due("an ARROW between", Due.graph(0, 1).parting(0, 1), -1);
        D.due("an ARROW between, from its end", Due.graph(0, 1).parting(1, 0), -1);
        D.due("an ARROW between, others about", Due.graph(0, 0, 0, 0, 0, 1).parting(0, 5), -1);
        D.due("all others", Due.graph(0, 1, 1, 1, 1, 30).parting(0, 5), 30);
        D.due("all others, from b", Due.graph(0, 1, 1, 1, 1, 30).parting(5, 0), 30);
        D.due("the least of four", Due.graph(0, 1, 2, 4, 8, 16).parting(0, 5), 2);
        D.due("the last alone is fewer", Due.graph(0, 1, 1, 1, 14, 16).parting(0, 5), 16);
        D.due("a HIDDEN one, if it is the least", hiding(2, 0, 1, 2, 4).parting(0, 3), 2);
        D.due("HIDDEN ones themselves", hiding(15, 0, 1, 2, 4).parting(0, 3), 2);
    }

    private static boolean isBadTelling(Reference r, int what, int a, int b) {
        return what < 0 || what > 2 || !isPair(r.n, a, b) || (r.hidden & (1 << a | 1 << b)) != 0;
    }

    /** Promise 11: "BAD: also a and b the same, HIDDEN; one of the set is, or is a or b; what." */
    private static void tellsOfEveryFour() {
        for (int n = 1; n <= 3; n++) {
            for (int hidden = 0; hidden < 1 << n; hidden++) {
                Sample made = Sample.of(n, hidden);
                Reference r = made.here;
                for (int i = 0; i < 5 * (n + 2) * (n + 2) * ((1 << n) + 2); i++) {
                    int what = i % 5 - 1;
                    int a = i / 5 % (n + 2) - 1;
                    int b = i / 5 / (n + 2) % (n + 2) - 1;
                    int set = i / 5 / (n + 2) / (n + 2) - 1;
                    boolean bad = isBadTelling(r, what, a, b) || (set & ~(Edges.all(n) & r.mayTell(a, b))) != 0;
                    String ask = "tells(" + what + ", " + a + ", " + b + ", " + set + ") of " + n + " less " + hidden;
                    int due = bad || !r.tells(what, a, b, set) ? 0 : 1;
                    asked(ask, made, x -> x.tells(what, a, b, set), bad, due);
                }
            }
        }
    }

    /** Promise 11: "what = 0 .. 2", "BAD: .. what". */
    private static void tellsBeyondBounds() {
        for (int n = 2; n <= 6; n++) {
            Sample made = Sample.of(n, 0);
            int last = n - 1;
            for (int what : Edges.beyond(0, 2)) {
                D.refused("tells(" + what + ", 0, " + last + ", 0)", made, x -> x.tells(what, 0, last, 0));
            }
        }
    }

    /** Promise 11: "BAD" of a number that is no PLACE, and of a and b the same. */
    private static void tellsOfNoPlace() {
        for (int n = 1; n <= 6; n++) {
            Sample made = Sample.of(n, 0);
            int last = n - 1;
            for (int w = 0; w < 3; w++) {
                int what = w;
                for (int no : Edges.notPlaces(n)) {
                    D.refused("tells(" + what + ", " + no + ", 0, 0)", made, x -> x.tells(what, no, 0, 0));
                    D.refused("tells(" + what + ", 0, " + no + ", 0)", made, x -> x.tells(what, last, no, 0));
                }
                for (int p = 0; p < n; p++) {
                    int same = p;
                    D.refused("tells(" + what + ") of the same " + p, made, x -> x.tells(what, same, same, 0));
                }
            }
        }
    }

    /** Promise 11: "BAD: .. one of the set .. is a or b", "a set that is not of PLACES". */
    private static void tellsByNoSet() {
        for (int n = 2; n <= 6; n++) {
            Sample made = Sample.of(n, 0);
            int last = n - 1;
            for (int w = 0; w < 3; w++) {
                int what = w;
                for (int set : Edges.notWithin(Edges.all(n))) {
                    D.refused("tells(" + what + ") by " + set, made, x -> x.tells(what, 0, last, set));
                }
                for (int set : new int[] {1, 1 << last, 1 | 1 << last, Edges.all(n), Edges.all(n) & ~1}) {
                    D.refused("tells(" + what + ") by a or b, " + set, made, x -> x.tells(what, 0, last, set));
                    D.refused("tells(" + what + ") by b or a, " + set, made, x -> x.tells(what, last, 0, set));
                }
            }
        }
    }

    /** Promise 11: "BAD: also a and b .. HIDDEN; one of the set is": each alone, and each with all others. */
    private static void tellsOfHiddenOnes() {
        for (int w = 0; w < 3; w++) {
            int what = w;
            D.refused("tells(" + what + "), a HIDDEN", Sample.of(6, 1), x -> x.tells(what, 0, 5, 2));
            D.refused("tells(" + what + "), b HIDDEN", Sample.of(6, 32), x -> x.tells(what, 0, 5, 2));
            D.refused("tells(" + what + "), both HIDDEN", Sample.of(6, 33), x -> x.tells(what, 0, 5, 2));
            D.refused("tells(" + what + "), all HIDDEN", Sample.of(6, 63), x -> x.tells(what, 0, 5, 0));
            for (int p = 1; p < 5; p++) {
                int one = 1 << p;
                Sample made = Sample.of(6, one);
                D.refused("tells(" + what + "), the set HIDDEN", made, x -> x.tells(what, 0, 5, one));
                D.refused("tells(" + what + "), one of all others HIDDEN", made, x -> x.tells(what, 0, 5, 30));
                int due = made.here.tells(what, 0, 5, 30 & ~one) ? 1 : 0;
                D.leaves("tells(" + what + ") by all seen others", made, x -> x.tells(what, 0, 5, 30 & ~one), due);
            }
        }
    }

    /** "Z (seen PLACES, not a, not b) is a BACK SET": the empty set may be one, and all others. */
    private static void backSetsFromNoneToAll() {
        D.due("back, without ARROWS, by none", Due.graph(0, 0).tells(0, 0, 1, 0), 1);
        D.due("back, by none", Due.graph(0, 1).tells(0, 0, 1, 0), 1);
        D.due("back, b makes a, by none", Due.graph(0, 1).tells(0, 1, 0, 0), 0);
        D.due("back, b makes a, by all others", Due.graph(0, 1, 2).tells(0, 2, 1, 1), 0);
        ActSurgery x = Due.graph(0, 0, 0, 0, 15, 31);
        D.due("back, by all others", x.tells(0, 4, 5, 15), 1);
        for (int p = 0; p < 4; p++) {
            D.due("back, by all others but one", x.tells(0, 4, 5, 15 & ~(1 << p)), 0);
        }
        D.due("back, none is enough", x.tells(0, 4, 5, 0), 0);
        D.due("the fewest are all others", x.telling(0, 4, 5), 15);
        D.due("back, all others without ARROWS", Due.graph(0, 0, 0, 0, 0, 0).tells(0, 0, 5, 30), 1);
    }

    /** "if none of it is AFTER a": over one ARROW or more, and also through b. */
    private static void backSetsAfter() {
        ActSurgery x = Due.graph(0, 1, 2, 4, 8, 0);
        for (int p = 2; p < 5; p++) {
            D.due("back, by one AFTER a, " + p, x.tells(0, 0, 1, 1 << p), 0);
            D.due("back, by one AFTER a and another", x.tells(0, 0, 1, 1 << p | 32), 0);
        }
        D.due("back, by one that is not", x.tells(0, 0, 1, 32), 1);
        D.due("back, by one before a", x.tells(0, 1, 2, 1), 1);
    }

    /** "M (likewise, not empty) is a FRONT SET". */
    private static void frontSetsAreNotEmpty() {
        for (int n = 2; n <= 6; n++) {
            Sample made = new Sample(new Reference(n), new Reference(1));
            int last = n - 1;
            D.leaves("front, by none, without ARROWS", made, x -> x.tells(1, 0, last, 0), 0);
            D.leaves("front, by none, back", made, x -> x.tells(1, last, 0, 0), 0);
            int due = n == 2 ? -1 : 2;
            D.leaves("the fewest in front are not none", made, x -> x.telling(1, 0, last), due);
        }
    }

    /** A FRONT SET of one, and one of all others. */
    private static void frontSetsFromOneToAll() {
        ActSurgery x = Due.graph(0, 1, 1, 1, 1, 30);
        D.due("front, by all others", x.tells(1, 0, 5, 30), 1);
        for (int p = 1; p < 5; p++) {
            D.due("front, by all but one", x.tells(1, 0, 5, 30 & ~(1 << p)), 0);
            D.due("front, by one", x.tells(1, 0, 5, 1 << p), 0);
        }
        D.due("the fewest in front are all others", x.telling(1, 0, 5), 30);
        x = Due.graph(0, 1, 2);
        D.due("front, by one", x.tells(1, 0, 2, 2), 1);
        // A HIDDEN one makes a and b; a and the one in front; the one in front and b.
        D.due("front, parted from b by a alone", hiding(1, 0, 1, 2, 5).tells(1, 1, 3, 4), 1);
        D.due("front, not parted from a", hiding(1, 0, 1, 3, 4).tells(1, 1, 3, 4), 0);
        D.due("front, not parted from b", hiding(2, 0, 0, 3, 6).tells(1, 0, 3, 4), 0);
        D.due("an ARROW alone goes through none", Due.graph(0, 1, 3).tells(1, 0, 2, 2), 0);
        D.due("no FRONT SET beside an ARROW", Due.graph(0, 1, 3).telling(1, 0, 2), -1);
    }

    /** "2 (of just one PLACE) an INSTRUMENT for (a, b)": none and two are not, whatever each of them is. */
    private static void instrumentsAreOnePlace() {
        Reference r = new Reference(6);
        for (int p = 0; p < 4; p++) {
            r.arrow[p][4] = true;
        }
        r.arrow[4][5] = true;
        Sample made = new Sample(r, new Reference(1));
        for (int s = 0; s < 16; s++) {
            int set = s;
            int due = Integer.bitCount(set) == 1 ? 1 : 0;
            D.leaves("an INSTRUMENT of " + set, made, x -> x.tells(2, 4, 5, set), due);
        }
        D.due("the least INSTRUMENT", made.get().telling(2, 4, 5), 1);
        D.due("an INSTRUMENT, though a makes nothing", Due.graph(0, 1, 0).tells(2, 1, 2, 1), 1);
        D.due("no INSTRUMENT, for it makes b alone", Due.graph(0, 0, 3).tells(2, 1, 2, 1), 0);
        D.due("no INSTRUMENT without ARROWS", Due.graph(0, 0, 0).tells(2, 1, 2, 1), 0);
        D.due("an INSTRUMENT that a makes", Due.graph(0, 1, 1).tells(2, 0, 2, 2), 1);
        D.due("no INSTRUMENT, for b makes it", Due.graph(0, 1, 2).tells(2, 0, 1, 4), 0);
    }

    /** Promise 12: "NONE; BAD: also a and b the same, HIDDEN; what." */
    private static void tellingOfEveryThree() {
        for (int n = 1; n <= 4; n++) {
            for (int hidden = 0; hidden < 1 << n; hidden++) {
                Sample made = Sample.of(n, hidden);
                Reference r = made.here;
                for (int i = 0; i < 5 * (n + 2) * (n + 2); i++) {
                    int what = i % 5 - 1;
                    int a = i / 5 % (n + 2) - 1;
                    int b = i / 5 / (n + 2) - 1;
                    boolean bad = isBadTelling(r, what, a, b);
                    String ask = "telling(" + what + ", " + a + ", " + b + ") of " + n + " less " + hidden;
                    asked(ask, made, x -> x.telling(what, a, b), bad, bad ? 0 : r.telling(what, a, b));
                }
            }
        }
    }

    /** Promise 12: "BAD: .. what." */
    private static void tellingBeyondBounds() {
        for (int n = 2; n <= 6; n++) {
            Sample made = Sample.of(n, 0);
            int last = n - 1;
            for (int what : Edges.beyond(0, 2)) {
                D.refused("telling(" + what + ", 0, " + last + ")", made, x -> x.telling(what, 0, last));
            }
        }
    }

    /** Promise 12: "BAD" of a number that is no PLACE, of the same, and of HIDDEN ones. */
    private static void tellingOfNoPlace() {
        for (int w = 0; w < 3; w++) {
            int what = w;
            for (int n = 1; n <= 6; n++) {
                Sample made = Sample.of(n, 0);
                int last = n - 1;
                for (int no : Edges.notPlaces(n)) {
                    D.refused("telling(" + what + ", " + no + ", 0)", made, x -> x.telling(what, no, 0));
                    D.refused("telling(" + what + ", " + last + ", " + no + ")", made, x -> x.telling(what, last, no));
                }
                D.refused("telling(" + what + ") of the first twice", made, x -> x.telling(what, 0, 0));
                D.refused("telling(" + what + ") of the last twice", made, x -> x.telling(what, last, last));
            }
            D.refused("telling(" + what + "), a HIDDEN", Sample.of(6, 1), x -> x.telling(what, 0, 5));
            D.refused("telling(" + what + "), b HIDDEN", Sample.of(6, 32), x -> x.telling(what, 0, 5));
            D.refused("telling(" + what + "), all HIDDEN", Sample.of(6, 63), x -> x.telling(what, 0, 5));
        }
    }

    /** Promise 12: "NONE": no set at all, or none but of HIDDEN ones. */
    private static void tellingNone() {
        D.due("back, the empty set is no NONE", Due.graph(0, 1).telling(0, 0, 1), 0);
        D.due("no BACK SET, for b makes a", Due.graph(0, 1).telling(0, 1, 0), -1);
        D.due("no FRONT SET of two PLACES", Due.graph(0, 0).telling(1, 0, 1), -1);
        D.due("no INSTRUMENT of two PLACES", Due.graph(0, 1).telling(2, 0, 1), -1);
        D.due("a BACK SET, seen", hiding(0, 0, 1, 3).telling(0, 1, 2), 1);
        D.due("a BACK SET, HIDDEN", hiding(1, 0, 1, 3).telling(0, 1, 2), -1);
        D.due("a FRONT SET, seen", hiding(0, 0, 1, 2).telling(1, 0, 2), 2);
        D.due("a FRONT SET, HIDDEN", hiding(2, 0, 1, 2).telling(1, 0, 2), -1);
        D.due("an INSTRUMENT, seen", hiding(0, 0, 1, 2).telling(2, 1, 2), 1);
        D.due("an INSTRUMENT, HIDDEN", hiding(1, 0, 1, 2).telling(2, 1, 2), -1);
    }

    /** Promise 13: "Whether the effects of a can be TOLD (1 or 0). BAD: also it is HIDDEN." */
    private static void toldOfEveryPlace() {
        for (int n = 1; n <= 6; n++) {
            for (int hidden = 0; hidden < 1 << n; hidden++) {
                Sample made = Sample.of(n, hidden);
                for (int p = 0; p < n; p++) {
                    int a = p;
                    boolean bad = Reference.in(hidden, a);
                    String ask = "told(" + a + ") of " + n + " less " + hidden;
                    asked(ask, made, x -> x.told(a), bad, bad || !made.here.told(a) ? 0 : 1);
                }
            }
        }
    }

    /** Promise 13: "BAD" of a number that is no PLACE. */
    private static void toldOfNoPlace() {
        for (int n = 1; n <= 6; n++) {
            Sample seen = Sample.of(n, 0);
            Sample hidden = Sample.of(n, Edges.all(n));
            for (int no : Edges.notPlaces(n)) {
                D.refused("told(" + no + ") of " + n, seen, x -> x.told(no));
                D.refused("told(" + no + ") of " + n + " HIDDEN ones", hidden, x -> x.told(no));
            }
        }
    }

    /** "no seen PLACE that a leads to by ARROWS whose PLACES between are all HIDDEN is in a's CLUMP". */
    private static void toldThroughHiddenOnes() {
        D.due("one PLACE alone", new ActSurgery().told(0), 1);
        D.due("BOUND with what a makes by an ARROW", hiding(1, 0, 1, 3).told(1), 0);
        D.due("BOUND, but a makes nothing", hiding(1, 0, 1, 3).told(2), 1);
        D.due("BOUND with what a makes through a HIDDEN one", hiding(5, 0, 1, 2, 5).told(1), 0);
        D.due("BOUND with what a makes through a seen one", hiding(1, 0, 1, 2, 5).told(1), 1);
        D.due("BOUND with what a makes through three HIDDEN ones", hiding(29, 0, 1, 2, 4, 8, 17).told(1), 0);
        D.due("a HIDDEN one that a makes alone binds nothing", hiding(2, 0, 1, 2).told(0), 1);
        D.due("all others HIDDEN", hiding(62, 0, 1, 3, 7, 15, 31).told(0), 1);
    }

    private static void refusedForTwoReasons() {
        for (int n = 1; n <= 6; n++) {
            for (int hidden : new int[] {0, Edges.all(n)}) {
                Sample made = Sample.of(n, hidden);
                int last = n - 1;
                for (int no : Edges.notPlaces(n)) {
                    D.refused("parted, all " + no, made, x -> x.parted(no, no, no));
                    D.refused("parted, the same and in Z", made, x -> x.parted(last, last, 1 << last));
                    D.refused("parted, the same and no set", made, x -> x.parted(last, last, -1));
                    D.refused("ways, all " + no, made, x -> x.ways(no, no, no));
                    D.refused("ways, no PLACE and no set", made, x -> x.ways(0, no, 1 << 6));
                    D.refused("parting, both " + no, made, x -> x.parting(no, no));
                    D.refused("tells, no what and no PLACE", made, x -> x.tells(3, no, 0, 0));
                    D.refused("tells, no what and the same", made, x -> x.tells(-1, 0, 0, 0));
                    D.refused("tells, no PLACE and no set", made, x -> x.tells(1, 0, no, -1));
                    D.refused("tells, all " + no, made, x -> x.tells(no, no, no, no));
                    D.refused("telling, no what and no PLACE", made, x -> x.telling(3, no, 0));
                    D.refused("telling, no what and the same", made, x -> x.telling(-1, last, last));
                    D.refused("telling, all " + no, made, x -> x.telling(no, no, no));
                }
            }
        }
    }
}
