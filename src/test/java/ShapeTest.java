/** Promises 6, 7 and 20: counts, sets of a PLACE, and what this one and THE OTHER have in common. */
public final class ShapeTest {
    private static final Due D = new Due();

    public static void main(String[] args) {
        counts();
        sureArrows();
        clumps();
        placeSets();
        shapesAlike();
        oddsAlike();
        actsAlike();
        seenAlike();
        D.end();
    }

    private static void counts() {
        ActSurgery x = Due.graph(0, 1, 1, 6, 8);
        x.hide(0, true);
        x.hide(3, true);
        int[] due = {5, 5, 9, 3, 3, 2, 5};
        for (int what = 0; what < due.length; what++) {
            D.due("6 count " + what, x.count(what), due[what]);
        }
        for (int what : new int[] {-1, 7, 8, Integer.MAX_VALUE, Integer.MIN_VALUE}) {
            D.due("6 count " + what, x.count(what), -2);
        }
        int[] factorials = {1, 1, 2, 6, 24, 120, 720};
        for (int n = 1; n <= 6; n++) {
            int[] full = new int[n];
            int[] chain = new int[n];
            for (int p = 0; p < n; p++) {
                full[p] = (1 << p) - 1;
                chain[p] = p == 0 ? 0 : 1 << (p - 1);
            }
            x = Due.graph(full);
            D.due("6 ARROWS of all", x.count(1), n * (n - 1) / 2);
            D.due("6 LIKE all ARROWS", x.count(3), factorials[n]);
            D.due("6 SURE of all ARROWS", x.count(4), 0);
            D.due("6 pairs of all ARROWS", x.count(6), 0);
            x = Due.graph(chain);
            D.due("6 LIKE a chain", x.count(3), n);
            D.due("6 SURE in a chain", x.count(4), 0);
            D.due("6 pairs of a chain", x.count(6), (n - 1) * (n - 2) / 2);
            x = Due.graph(new int[n]);
            D.due("6 LIKE no ARROWS", x.count(3), 1);
            D.due("6 pairs of no ARROWS", x.count(6), n * (n - 1) / 2);
            D.due("6 CLUMPS of no ARROWS", x.count(5), n);
        }
    }

    private static void sureArrows() {
        ActSurgery x = Due.graph(0, 0, 3, 4);
        D.due("6 LIKE a meeting and on", x.count(3), 1);
        D.due("6 SURE: the meeting, and what must not meet it", x.count(4), 3);
        D.due("7 SURE 0", x.of(0, 5), 4);
        D.due("7 SURE 1", x.of(1, 5), 4);
        D.due("7 SURE 2", x.of(2, 5), 8);
        D.due("7 SURE 3", x.of(3, 5), 0);
        x = Due.graph(0, 1, 1, 6);
        D.due("6 LIKE a diamond", x.count(3), 3);
        D.due("6 SURE in a diamond", x.count(4), 2);
        D.due("7 SURE in a diamond 0", x.of(0, 5), 0);
        D.due("7 SURE in a diamond 1", x.of(1, 5), 8);
        x = Due.graph(0, 0, 3, 7);
        D.due("6 SURE: two meetings of the same", x.count(4), 4);
        D.due("6 LIKE that", x.count(3), 2);
        D.due("7 SURE from both", x.of(0, 5), 12);
        x = Due.graph(0, 0, 3, 5);
        D.due("6 SURE by no ring", x.count(4), 4);
        D.due("6 LIKE that", x.count(3), 1);
        D.due("7 SURE by no ring", x.of(0, 5), 12);
        x = Due.graph(0, 1, 3);
        D.due("6 no meeting if joined", x.count(4), 0);
        D.due("6 LIKE if joined", x.count(3), 6);
    }

    private static void clumps() {
        // 0 HIDDEN leads to 1, and by 2 HIDDEN to 3; 4 hangs on 3 by 2, too; 5 stands alone.
        ActSurgery x = Due.graph(0, 1, 1, 4, 4, 8);
        D.due("6 none HIDDEN", x.count(5), 6);
        D.due("7 CLUMP of itself", x.of(3, 4), 8);
        x.hide(0, true);
        D.due("6 one HIDDEN", x.count(5), 4);
        D.due("7 CLUMP", x.of(1, 4), 6);
        D.due("7 CLUMP of HIDDEN", x.of(0, 4), 0);
        x.hide(2, true);
        D.due("6 two HIDDEN", x.count(5), 2);
        D.due("7 CLUMP", x.of(1, 4), 26);
        D.due("7 CLUMP", x.of(4, 4), 26);
        D.due("7 CLUMP alone", x.of(5, 4), 32);
        for (int p = 0; p < 6; p++) {
            x.hide(p, true);
        }
        D.due("6 all HIDDEN", x.count(5), 0);
        // 2 and 3 are BOUND by 0, 3 and 4 by 1: all three hang together.
        x = Due.graph(0, 0, 1, 3, 2);
        x.hide(0, true);
        x.hide(1, true);
        D.due("6 hanging together", x.count(5), 1);
        D.due("7 hanging together", x.of(4, 4), 28);
        // A seen PLACE between binds none.
        x = Due.graph(0, 1, 2, 1);
        x.hide(0, true);
        D.due("7 seen between", x.of(2, 4), 4);
        D.due("7 BOUND", x.of(3, 4), 10);
        // A chain of bonds that has to be followed backwards.
        x = Due.graph(0, 0, 1, 3, 2, 0);
        x.hide(0, true);
        x.hide(1, true);
        D.due("7 from the end", x.of(2, 4), 28);
        D.due("6 and one alone", x.count(5), 2);
    }

    private static void placeSets() {
        ActSurgery x = Due.graph(0, 1, 2, 2, 12, 0);
        int[][] due = {{0, 2, 30, 0, 1, 0}, {1, 12, 28, 1, 2, 0}, {2, 16, 16, 3, 4, 16}, {2, 16, 16, 3, 8, 16},
            {12, 0, 0, 15, 16, 0}, {0, 0, 0, 0, 32, 0}};
        for (int p = 0; p < 6; p++) {
            for (int what = 0; what < 6; what++) {
                D.due("7 of " + p + " " + what, x.of(p, what), due[p][what]);
            }
        }
        int[][] bad = {{-1, 0}, {6, 0}, {0, -1}, {0, 6}, {Integer.MAX_VALUE, 1}, {1, Integer.MAX_VALUE},
            {Integer.MIN_VALUE, 2}, {2, Integer.MIN_VALUE}, {32, 0}};
        for (int[] b : bad) {
            D.due("7 of " + b[0] + " " + b[1], x.of(b[0], b[1]), -2);
        }
        x.begin(2);
        D.due("7 beyond n", x.of(2, 0), -2);
    }

    /** This one and THE OTHER by their PARENTS. */
    private static ActSurgery both(int[] here, int[] there) {
        ActSurgery x = Due.graph(there);
        x.keep();
        x.begin(here.length);
        for (int p = 0; p < here.length; p++) {
            x.parents(p, here[p]);
        }
        return x;
    }

    private static void shapesAlike() {
        D.due("20 chains", both(new int[] {0, 1, 2}, new int[] {0, 1, 2}).alike(0), 1);
        D.due("20 chain and fork", both(new int[] {0, 1, 2}, new int[] {0, 1, 1}).alike(0), 0);
        D.due("20 meeting and chain", both(new int[] {0, 0, 3}, new int[] {0, 1, 2}).alike(0), 0);
        D.due("20 one more ARROW", both(new int[] {0, 1, 3}, new int[] {0, 0, 3}).alike(0), 0);
        D.due("20 another n", both(new int[] {0, 0}, new int[] {0, 0, 0}).alike(0), 0);
        D.due("20 all ARROWS", both(new int[] {0, 1, 3, 7}, new int[] {0, 1, 3, 7}).alike(0), 1);
        D.due("20 a meeting less", both(new int[] {0, 0, 1, 6}, new int[] {0, 0, 1, 2}).alike(0), 0);
        D.due("20 meeting elsewhere", both(new int[] {0, 0, 3, 4}, new int[] {0, 0, 1, 4}).alike(0), 0);
        for (int what = 0; what < 4; what++) {
            D.due("20 not as many PLACES", both(new int[] {0}, new int[] {0, 0}).alike(what), 0);
        }
        for (int what : new int[] {-1, 4, Integer.MAX_VALUE, Integer.MIN_VALUE}) {
            D.due("20 alike " + what, new ActSurgery().alike(what), -2);
            D.due("20 BAD first", both(new int[] {0}, new int[] {0, 0}).alike(what), -2);
        }
    }

    private static void oddsAlike() {
        ActSurgery x = both(new int[] {0, 1}, new int[] {0, 0});
        D.due("20 ODDS by an idle ARROW", x.alike(1), 1);
        D.due("20 SHAPE by an idle ARROW", x.alike(0), 0);
        D.due("20 acts by an idle ARROW", x.alike(2), 1);
        x.weight(1, 1, 9);
        D.due("20 ODDS differ", x.alike(1), 0);
        D.due("20 acts differ", x.alike(2), 0);
        D.due("20 seen differ", x.alike(3), 0);
        x.weight(0, 0, 0);
        D.due("20 WEIGHT that never counts, but 0 is changed", x.alike(1), 0);
        x.swap();
        x.weight(0, 0, 0);
        D.due("20 WEIGHT that never counts", x.alike(1), 1);
        D.due("20 but with 0 SET to 1", x.alike(2), 0);
        // With one PLACE its being SET tells nothing of its WEIGHT.
        x = new ActSurgery();
        x.weight(0, 0, 3);
        D.due("20 one PLACE, ODDS", x.alike(1), 0);
        D.due("20 one PLACE, also acts", x.alike(2), 0);
        D.due("20 one PLACE, SHAPE", x.alike(0), 1);
    }

    private static void actsAlike() {
        // 2 copies 1 here, and copies 0 there; 1 copies 0 in both: the seen is one, the acts are not.
        ActSurgery x = both(new int[] {0, 1, 1}, new int[] {0, 1, 2});
        for (int side = 0; side < 2; side++) {
            x.weight(1, 0, 0);
            x.weight(1, 1, 16);
            x.weight(2, 0, 0);
            x.weight(2, x.of(2, 0), 16);
            x.swap();
        }
        D.due("20 copies, ODDS", x.alike(1), 1);
        D.due("20 copies, acts", x.alike(2), 0);
        x.keep();
        D.due("20 kept, acts", x.alike(2), 1);
        // Acts that differ only by one PLACE SET to 0.
        x = both(new int[] {0, 1}, new int[] {0, 1});
        x.weight(0, 0, 16);
        x.swap();
        x.weight(0, 0, 16);
        x.weight(1, 0, 7);
        D.due("20 never 0, ODDS", x.alike(1), 1);
        D.due("20 SET to 0", x.alike(2), 0);
        // The same by a PLACE in the midst: SET to the VALUE that it never has by itself, and to no other.
        for (int value = 0; value < 2; value++) {
            x = both(new int[] {0, 0, 2}, new int[] {0, 0, 2});
            x.weight(1, 0, value == 0 ? 16 : 0);
            x.keep();
            D.due("20 kept", x.alike(2), 1);
            x.weight(2, value << 1, 7);
            D.due("20 never " + value + ", ODDS", x.alike(1), 1);
            D.due("20 midst SET to " + value, x.alike(2), 0);
        }
    }

    private static void seenAlike() {
        // A HIDDEN copy here, none there: 1 is even in both.
        ActSurgery x = both(new int[] {0, 1}, new int[] {0, 0});
        x.weight(1, 1, 16);
        x.weight(1, 0, 0);
        D.due("20 none HIDDEN", x.alike(3), 0);
        x.hide(0, true);
        D.due("20 HIDDEN here", x.alike(3), 1);
        x.hide(0, false);
        x.swap();
        x.hide(0, true);
        x.swap();
        D.due("20 HIDDEN there", x.alike(3), 1);
        D.due("20 ODDS of all", x.alike(1), 0);
        x.hide(1, true);
        x.weight(1, 1, 1);
        D.due("20 none seen in both", x.alike(3), 1);
        x.hide(1, false);
        D.due("20 other ODDS of the seen", x.alike(3), 0);
    }
}
