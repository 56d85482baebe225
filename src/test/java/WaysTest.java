/** Promises 8 to 13: what parts two PLACES, and what tells an act's effect from what is seen. */
public final class WaysTest {
    private static final Due D = new Due();

    public static void main(String[] args) {
        parted();
        parting();
        ways();
        badAsks();
        backSets();
        frontSets();
        instruments();
        badTelling();
        told();
        D.end();
    }

    private static void parted() {
        ActSurgery x = Due.graph(0, 1, 2);
        D.due("8 chain", x.parted(0, 2, 0), 0);
        D.due("8 chain by its midst", x.parted(0, 2, 2), 1);
        D.due("8 from the end", x.parted(2, 0, 2), 1);
        D.due("8 beside", x.parted(0, 1, 4), 0);
        x = Due.graph(0, 1, 1);
        D.due("8 fork", x.parted(1, 2, 0), 0);
        D.due("8 fork by its midst", x.parted(1, 2, 1), 1);
        x = Due.graph(0, 0, 3, 4, 8);
        D.due("8 meeting", x.parted(0, 1, 0), 1);
        D.due("8 meeting in Z", x.parted(0, 1, 4), 0);
        D.due("8 next after the meeting", x.parted(1, 0, 8), 0);
        D.due("8 further after the meeting", x.parted(0, 1, 16), 0);
        D.due("8 past the meeting", x.parted(0, 4, 0), 0);
        D.due("8 past the meeting, closed", x.parted(0, 4, 8), 1);
        D.due("8 past the meeting, by another", x.parted(0, 4, 2), 0);
        x.hide(2, true);
        D.due("8 HIDDEN ones part, too", x.parted(0, 3, 4), 1);
        D.due("8 no ARROWS", Due.graph(0, 0).parted(0, 1, 0), 1);
    }

    private static void parting() {
        D.due("9 nothing between", Due.graph(0, 0).parting(0, 1), 0);
        D.due("9 beside", Due.graph(0, 1).parting(1, 0), -1);
        D.due("9 meeting", Due.graph(0, 0, 3).parting(0, 1), 0);
        D.due("9 chain, the least", Due.graph(0, 1, 2, 4).parting(0, 3), 2);
        D.due("9 chain, the least backwards", Due.graph(0, 1, 2, 4).parting(3, 0), 2);
        D.due("9 two ways", Due.graph(0, 1, 1, 6).parting(0, 3), 6);
        // One PLACE of a great number is fewer than two of lesser ones.
        D.due("9 the fewest", Due.graph(0, 1, 1, 6, 8).parting(0, 4), 8);
        D.due("9 one, not the least number", Due.graph(0, 1, 1, 6, 8).parting(1, 4), 8);
        ActSurgery x = Due.graph(0, 1, 2);
        x.hide(1, true);
        D.due("9 by a HIDDEN one", x.parting(0, 2), 2);
        // The fork at 0 must be closed, the meeting at 3 left alone.
        D.due("9 fork and meeting", Due.graph(0, 1, 1, 6).parting(1, 2), 1);
    }

    private static void ways() {
        D.due("10 none", Due.graph(0, 0).ways(0, 1, 0), 0);
        D.due("10 one", Due.graph(0, 1).ways(1, 0, 0), 1);
        ActSurgery x = Due.graph(0, 1, 1, 6);
        D.due("10 two chains", x.ways(0, 3, 0), 2);
        D.due("10 one is closed", x.ways(0, 3, 2), 1);
        D.due("10 both are closed", x.ways(0, 3, 6), 0);
        D.due("10 fork", x.ways(1, 2, 0), 1);
        D.due("10 fork and meeting", x.ways(1, 2, 8), 2);
        D.due("10 meeting alone", x.ways(1, 2, 9), 1);
        x = Due.graph(0, 1, 3, 7, 15, 31);
        D.due("10 all ARROWS, nothing known", x.ways(0, 5, 0), 16);
        D.due("10 all ARROWS, the first two", x.ways(0, 1, 0), 1);
        D.due("10 all ARROWS, all known", x.ways(0, 1, 60), 5);
    }

    private static void badAsks() {
        ActSurgery x = Due.graph(0, 1, 2, 4);
        int[][] bad = {{0, 0, 0}, {0, 1, 1}, {0, 1, 2}, {0, 1, 7}, {0, 1, 16}, {0, 1, -1}, {-1, 1, 0}, {0, -1, 0},
            {4, 1, 0}, {0, 4, 0}, {0, 1, Integer.MIN_VALUE}, {Integer.MAX_VALUE, 0, 0}, {0, Integer.MIN_VALUE, 0},
            {0, 32, 0}, {32, 0, 0}, {3, 3, 1}};
        for (int[] b : bad) {
            D.due("8 parted " + b[0] + " " + b[1] + " " + b[2], x.parted(b[0], b[1], b[2]), -2);
            D.due("10 ways " + b[0] + " " + b[1] + " " + b[2], x.ways(b[0], b[1], b[2]), -2);
        }
        int[][] pairs = {{0, 0}, {3, 3}, {-1, 0}, {0, -1}, {4, 0}, {0, 4}, {Integer.MAX_VALUE, 0},
            {0, Integer.MIN_VALUE}, {4, 4}};
        for (int[] b : pairs) {
            D.due("9 parting " + b[0] + " " + b[1], x.parting(b[0], b[1]), -2);
        }
    }

    private static void backSets() {
        // 0 makes both 1 and 3; 1 makes 2, 2 makes 3.
        ActSurgery x = Due.graph(0, 1, 2, 5);
        D.due("11 open behind", x.tells(0, 1, 3, 0), 0);
        D.due("11 closed behind", x.tells(0, 1, 3, 1), 1);
        D.due("11 one AFTER a", x.tells(0, 1, 3, 5), 0);
        D.due("11 only AFTER a", x.tells(0, 1, 3, 4), 0);
        D.due("12 back", x.telling(0, 1, 3), 1);
        x.hide(0, true);
        D.due("12 back, but HIDDEN", x.telling(0, 1, 3), -1);
        D.due("11 b makes a", x.tells(0, 3, 2, 0), 0);
        D.due("12 b makes a", x.telling(0, 3, 2), -1);
        D.due("12 nothing behind", Due.graph(0, 1).telling(0, 0, 1), 0);
        // A meeting behind a's back, that must not be known alone.
        x = Due.graph(0, 0, 3, 1, 10);
        D.due("11 meeting left alone", x.tells(0, 3, 4, 0), 1);
        D.due("11 meeting known", x.tells(0, 3, 4, 4), 0);
        D.due("11 meeting known with 0", x.tells(0, 3, 4, 5), 1);
        D.due("12 meeting", x.telling(0, 3, 4), 0);
        // The meeting makes a and b: it is needed, with one of its PARENTS; the least number wins.
        x = Due.graph(0, 0, 3, 5, 14);
        D.due("11 meeting alone", x.tells(0, 3, 4, 4), 0);
        D.due("12 two, the least", x.telling(0, 3, 4), 5);
        x.hide(0, true);
        D.due("12 two, without the HIDDEN", x.telling(0, 3, 4), 6);
        D.due("12 the fewest", Due.graph(0, 1, 1, 6, 8, 24).telling(0, 4, 5), 8);
    }

    private static void frontSets() {
        ActSurgery x = Due.graph(0, 1, 2, 5);
        x.hide(0, true);
        D.due("11 front", x.tells(1, 1, 3, 4), 1);
        D.due("11 front, empty", x.tells(1, 1, 3, 0), 0);
        D.due("12 front", x.telling(1, 1, 3), 4);
        // An ARROW past the set.
        x = Due.graph(0, 1, 2, 7);
        x.hide(0, true);
        D.due("11 past the set", x.tells(1, 1, 3, 4), 0);
        D.due("12 past the set", x.telling(1, 1, 3), -1);
        // 0 makes the midst and a.
        x = Due.graph(0, 1, 3, 4);
        x.hide(0, true);
        D.due("11 bound with a", x.tells(1, 1, 3, 4), 0);
        // 0 makes the midst and b.
        x = Due.graph(0, 0, 3, 5);
        x.hide(0, true);
        D.due("11 bound with b", x.tells(1, 1, 3, 4), 0);
        // Two in a row, and two side by side.
        x = Due.graph(0, 1, 2, 4, 9);
        x.hide(0, true);
        D.due("11 the first of a row", x.tells(1, 1, 4, 4), 1);
        D.due("11 the second of a row", x.tells(1, 1, 4, 8), 1);
        D.due("11 the whole row", x.tells(1, 1, 4, 12), 1);
        D.due("12 the first of a row", x.telling(1, 1, 4), 4);
        x = Due.graph(0, 1, 2, 2, 13);
        x.hide(0, true);
        D.due("11 one of two sides", x.tells(1, 1, 4, 4), 0);
        D.due("11 both sides", x.tells(1, 1, 4, 12), 1);
        D.due("12 both sides", x.telling(1, 1, 4), 12);
        // No row of ARROWS from a to b at all.
        x = Due.graph(0, 0, 0);
        D.due("11 no ARROWS", x.tells(1, 0, 1, 4), 1);
        D.due("11 no ARROWS, empty", x.tells(1, 0, 1, 0), 0);
        D.due("12 no ARROWS", x.telling(1, 0, 1), 4);
        D.due("12 no PLACES left", Due.graph(0, 0).telling(1, 0, 1), -1);
    }

    private static void instruments() {
        ActSurgery x = Due.graph(0, 0, 3, 6);
        x.hide(1, true);
        D.due("11 instrument", x.tells(2, 2, 3, 1), 1);
        D.due("12 instrument", x.telling(2, 2, 3), 1);
        D.due("11 none of the set", x.tells(2, 2, 3, 0), 0);
        x = Due.graph(0, 0, 3, 7);
        x.hide(1, true);
        D.due("11 makes b itself", x.tells(2, 2, 3, 1), 0);
        D.due("12 makes b itself", x.telling(2, 2, 3), -1);
        x = Due.graph(0, 0, 2, 6);
        x.hide(1, true);
        D.due("11 has no part in a", x.tells(2, 2, 3, 1), 0);
        // Two instruments: of just one PLACE, the least.
        x = Due.graph(0, 0, 0, 7, 12);
        x.hide(2, true);
        D.due("11 the second", x.tells(2, 3, 4, 2), 1);
        D.due("11 two at once", x.tells(2, 3, 4, 3), 0);
        D.due("12 the least", x.telling(2, 3, 4), 1);
        // By a common maker.
        x = Due.graph(0, 1, 1, 0, 12, 24);
        x.hide(0, true);
        x.hide(3, true);
        D.due("11 by a maker", x.tells(2, 4, 5, 2), 1);
        D.due("12 by a maker", x.telling(2, 4, 5), 2);
    }

    private static void badTelling() {
        ActSurgery x = Due.graph(0, 1, 2, 4, 8);
        x.hide(4, true);
        int[][] bad = {{-1, 0, 1, 4}, {3, 0, 1, 4}, {0, 1, 1, 4}, {0, 4, 1, 4}, {0, 1, 4, 4}, {0, -1, 1, 4},
            {0, 0, 5, 4}, {0, 5, 0, 4}, {Integer.MAX_VALUE, 0, 1, 4}, {1, 0, Integer.MIN_VALUE, 4},
            {2, Integer.MAX_VALUE, 0, 4}, {Integer.MIN_VALUE, 0, 1, 4}, {2, 2, 2, 1}, {1, 32, 0, 4}};
        for (int[] b : bad) {
            D.due("11 tells " + b[0] + " " + b[1] + " " + b[2], x.tells(b[0], b[1], b[2], b[3]), -2);
            D.due("12 telling " + b[0] + " " + b[1] + " " + b[2], x.telling(b[0], b[1], b[2]), -2);
        }
        for (int what = 0; what < 3; what++) {
            for (int set : new int[] {1, 2, 5, 6, 16, 20, 32, 36, -1, Integer.MIN_VALUE, Integer.MAX_VALUE}) {
                D.due("11 tells of " + set, x.tells(what, 0, 1, set), -2);
            }
        }
        D.due("11 a good one", x.tells(0, 0, 1, 0), 1);
    }

    private static void told() {
        ActSurgery x = Due.graph(0, 1, 2, 5);
        D.due("13 none HIDDEN", x.told(1), 1);
        x.hide(0, true);
        D.due("13 a in front of its clump", x.told(1), 1);
        D.due("13 nothing after", x.told(3), 1);
        D.due("13 HIDDEN", x.told(0), -2);
        x.hide(2, true);
        D.due("13 by a HIDDEN one", x.told(1), 0);
        x = Due.graph(0, 1, 3);
        x.hide(0, true);
        D.due("13 bound with what it makes", x.told(1), 0);
        x.hide(0, false);
        D.due("13 seen again", x.told(1), 1);
        // 2 makes 3; 2 and 4 are BOUND by 0, 3 and 4 by 1: one clump.
        x = Due.graph(0, 0, 1, 6, 3);
        x.hide(0, true);
        x.hide(1, true);
        D.due("13 in one clump by a third", x.told(2), 0);
        D.due("13 the third", x.told(4), 1);
        for (int a : new int[] {-1, 5, 6, 32, Integer.MAX_VALUE, Integer.MIN_VALUE}) {
            D.due("13 told " + a, x.told(a), -2);
        }
    }
}
