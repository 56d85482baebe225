/** Promises 1 to 5, 18 and 19: what an object holds, and what changes it. */
public final class StateTest {
    private static final Due D = new Due();

    public static void main(String[] args) {
        newObject();
        begin();
        parents();
        weight();
        hide();
        swap();
        keep();
        D.end();
    }

    private static void newObject() {
        for (int side = 0; side < 2; side++) {
            ActSurgery x = new ActSurgery();
            if (side == 1) {
                D.due("1 swap", x.swap(), 1);
            }
            D.due("1 n", x.count(0), 1);
            D.due("1 PARENTS", x.of(0, 0), 0);
            D.due("1 HIDDEN", x.count(2), 0);
            D.due("1 WEIGHT", x.weight(0, 0, 8), 8);
            D.due("1 ODDS above", x.odds(1, 1, 0, 0, 0, 0, 0), 1);
            D.due("1 ODDS below", x.odds(1, 1, 0, 0, 0, 0, 1), 2);
            for (int what = 0; what < 4; what++) {
                D.due("1 alike " + what, x.alike(what), 1);
            }
        }
        D.due("NONE", ActSurgery.NONE, -1);
        D.due("BAD", ActSurgery.BAD, -2);
    }

    private static void begin() {
        ActSurgery x = new ActSurgery();
        int were = 1;
        for (int n : new int[] {6, 1, 2, 3, 4, 5, 6}) {
            D.due("2 begin " + n, x.begin(n), were);
            D.due("2 n", x.count(0), n);
            were = n;
        }
        for (int n : new int[] {0, -1, 7, 8, Integer.MAX_VALUE, Integer.MIN_VALUE}) {
            D.due("2 begin " + n, x.begin(n), -2);
            D.due("2 n stays", x.count(0), 6);
        }
        x.parents(5, 31);
        x.weight(5, 31, 3);
        x.weight(5, 0, 3);
        x.weight(0, 0, 16);
        x.hide(4, true);
        D.due("2 begin 0 changes nothing", x.begin(0), -2);
        D.due("2 PARENTS stay", x.of(5, 0), 31);
        D.due("2 HIDDEN stays", x.count(2), 16);
        D.due("2 begin again", x.begin(6), 6);
        D.due("2 no ARROWS", x.count(1), 0);
        D.due("2 none HIDDEN", x.count(2), 0);
        for (int p = 0; p < 6; p++) {
            D.due("2 WEIGHT " + p, x.weight(p, 0, 8), 8);
        }
        // What was there beyond a lesser n does not come back.
        x.parents(3, 7);
        x.weight(3, 0, 1);
        x.hide(3, true);
        x.begin(2);
        D.due("2 HIDDEN beyond n", x.count(2), 0);
        x.begin(4);
        D.due("2 PARENTS beyond n", x.of(3, 0), 0);
        D.due("2 WEIGHT beyond n", x.weight(3, 0, 8), 8);
        D.due("2 THE OTHER stays", x.swap(), 1);
    }

    private static void parents() {
        ActSurgery x = new ActSurgery();
        x.begin(4);
        D.due("3 first", x.parents(3, 5), 0);
        D.due("3 what it had", x.parents(3, 7), 5);
        D.due("3 has", x.of(3, 0), 7);
        x.weight(3, 6, 2);
        D.due("3 the same set", x.parents(3, 7), 7);
        D.due("3 WEIGHTS are 8", x.weight(3, 6, 2), 8);
        D.due("3 fewer", x.parents(3, 2), 7);
        D.due("3 WEIGHTS are 8", x.weight(3, 2, 4), 8);
        x.weight(2, 0, 5);
        D.due("3 of another", x.parents(3, 0), 2);
        D.due("3 WEIGHTS of others stay", x.weight(2, 0, 5), 5);
        D.due("3 none", x.of(3, 0), 0);
        x.parents(3, 3);
        x.weight(3, 3, 9);
        int[][] bad = {{0, 1}, {1, 2}, {1, 3}, {2, 4}, {3, 8}, {3, 9}, {3, 16}, {3, -1}, {3, Integer.MIN_VALUE},
            {-1, 0}, {4, 0}, {4, 1}, {32, 0}, {Integer.MAX_VALUE, 0}, {Integer.MIN_VALUE, 0}, {2, 8}, {0, -1}};
        for (int[] b : bad) {
            D.due("3 parents " + b[0] + " " + b[1], x.parents(b[0], b[1]), -2);
        }
        D.due("3 PARENTS stay", x.of(3, 0), 3);
        D.due("3 WEIGHTS stay", x.weight(3, 3, 9), 9);
        D.due("3 place 0", x.parents(0, 0), 0);
        x.begin(6);
        D.due("3 all lesser ones", x.parents(5, 31), 0);
        D.due("3 all lesser ones", x.of(5, 0), 31);
    }

    private static void weight() {
        ActSurgery x = Due.graph(0, 1, 0, 5);
        D.due("4 first", x.weight(3, 4, 0), 8);
        D.due("4 what it was", x.weight(3, 4, 16), 0);
        D.due("4 what it was", x.weight(3, 4, 7), 16);
        D.due("4 another ROW", x.weight(3, 5, 1), 8);
        D.due("4 ROW stays", x.weight(3, 4, 7), 7);
        D.due("4 another PLACE", x.weight(1, 1, 3), 8);
        D.due("4 another PLACE's same ROW", x.weight(3, 1, 8), 8);
        int[][] bad = {{3, 2, 8}, {3, 6, 8}, {3, 8, 8}, {3, -1, 8}, {3, 4, 17}, {3, 4, -1}, {4, 0, 8}, {-1, 0, 8},
            {0, 1, 8}, {2, 1, 8}, {3, 32, 8}, {3, 4, Integer.MAX_VALUE}, {3, Integer.MIN_VALUE, 8},
            {Integer.MAX_VALUE, 0, 8}, {1, 2, 8}};
        for (int[] b : bad) {
            D.due("4 weight " + b[0] + " " + b[1] + " " + b[2], x.weight(b[0], b[1], b[2]), -2);
        }
        D.due("4 WEIGHT stays", x.weight(3, 4, 7), 7);
        x = Due.graph(0, 0, 0, 0, 0, 31);
        for (int values = 0; values < 32; values++) {
            D.due("4 row " + values, x.weight(5, values, values % 17), 8);
        }
        for (int values = 0; values < 32; values++) {
            D.due("4 row again " + values, x.weight(5, values, 8), values % 17);
        }
    }

    private static void hide() {
        ActSurgery x = Due.graph(0, 0, 3);
        D.due("5 hide", x.hide(1, true), 0);
        D.due("5 again", x.hide(1, true), 1);
        D.due("5 another", x.hide(2, true), 0);
        D.due("5 set", x.count(2), 6);
        D.due("5 show", x.hide(1, false), 1);
        D.due("5 show again", x.hide(1, false), 0);
        D.due("5 set", x.count(2), 4);
        for (int p : new int[] {-1, 3, 6, 32, Integer.MAX_VALUE, Integer.MIN_VALUE}) {
            D.due("5 hide " + p, x.hide(p, true), -2);
            D.due("5 show " + p, x.hide(p, false), -2);
        }
        D.due("5 set stays", x.count(2), 4);
        D.due("5 parents() hides none", x.parents(2, 1), 3);
        D.due("5 set stays", x.count(2), 4);
    }

    private static void swap() {
        ActSurgery x = Due.graph(0, 1, 2);
        x.weight(2, 2, 11);
        x.hide(1, true);
        D.due("18 swap", x.swap(), 1);
        D.due("18 n", x.count(0), 1);
        D.due("18 HIDDEN", x.count(2), 0);
        x.begin(2);
        x.parents(1, 1);
        x.weight(1, 1, 4);
        D.due("18 swap back", x.swap(), 3);
        D.due("18 n", x.count(0), 3);
        D.due("18 PARENTS", x.of(2, 0), 2);
        D.due("18 PARENTS", x.of(1, 0), 1);
        D.due("18 WEIGHT", x.weight(2, 2, 11), 11);
        D.due("18 WEIGHT", x.weight(1, 1, 8), 8);
        D.due("18 HIDDEN", x.count(2), 2);
        D.due("18 swap again", x.swap(), 2);
        D.due("18 WEIGHT", x.weight(1, 1, 4), 4);
        D.due("18 HIDDEN", x.count(2), 0);
    }

    private static void keep() {
        ActSurgery x = Due.graph(0, 1, 3, 4);
        x.weight(3, 4, 2);
        x.weight(0, 0, 1);
        x.hide(0, true);
        D.due("19 keep", x.keep(), 4);
        // What comes after keep() changes only this one.
        x.weight(3, 4, 5);
        x.parents(2, 0);
        x.hide(0, false);
        x.hide(1, true);
        D.due("19 swap", x.swap(), 4);
        D.due("19 PARENTS", x.of(2, 0), 3);
        D.due("19 PARENTS", x.of(1, 0), 1);
        D.due("19 PARENTS", x.of(3, 0), 4);
        D.due("19 WEIGHT", x.weight(3, 4, 2), 2);
        D.due("19 WEIGHT", x.weight(0, 0, 1), 1);
        D.due("19 HIDDEN", x.count(2), 1);
        D.due("19 keep again", x.keep(), 4);
        D.due("19 swap", x.swap(), 4);
        D.due("19 the changed one is gone", x.weight(3, 4, 2), 2);
        x.begin(1);
        D.due("19 keep of one", x.keep(), 1);
        x.begin(6);
        D.due("19 swap", x.swap(), 1);
        D.due("19 back", x.swap(), 6);
    }
}
