/** Promises 14 to 17: ODDS of what is seen, of what is SET, and of what WOULD HAVE BEEN. */
public final class OddsTest {
    private static final Due D = new Due();

    public static void main(String[] args) {
        odds();
        would();
        none();
        most();
        badOdds();
        effect();
        swayed();
        badPairs();
        D.end();
    }

    /** 0 makes 1, and both make 2. */
    private static ActSurgery three() {
        ActSurgery x = Due.graph(0, 1, 3);
        x.weight(1, 0, 4);
        x.weight(1, 1, 12);
        x.weight(2, 0, 2);
        x.weight(2, 1, 6);
        x.weight(2, 2, 8);
        x.weight(2, 3, 14);
        return x;
    }

    private static void dueOdds(ActSurgery x, int[] q, int above, int below) {
        D.due("14 above", x.odds(q[0], q[1], q[2], q[3], q[4], q[5], 0), above);
        D.due("14 below", x.odds(q[0], q[1], q[2], q[3], q[4], q[5], 1), below);
    }

    private static void dueWould(ActSurgery x, int[] q, int above, int below) {
        D.due("15 above", x.would(q[0], q[1], q[2], q[3], q[4], q[5], 0), above);
        D.due("15 below", x.would(q[0], q[1], q[2], q[3], q[4], q[5], 1), below);
    }

    private static void odds() {
        ActSurgery x = three();
        dueOdds(x, new int[] {4, 4, 0, 0, 2, 2}, 25, 32);
        dueOdds(x, new int[] {4, 4, 2, 2, 0, 0}, 11, 16);
        dueOdds(x, new int[] {4, 0, 2, 0, 0, 0}, 3, 4);
        dueOdds(x, new int[] {4, 4, 2, 2, 1, 1}, 7, 8);
        dueOdds(x, new int[] {1, 1, 2, 2, 0, 0}, 1, 2);
        dueOdds(x, new int[] {1, 1, 0, 0, 2, 2}, 3, 4);
        dueOdds(x, new int[] {1, 1, 2, 2, 4, 4}, 7, 11);
        dueOdds(x, new int[] {0, 0, 0, 0, 0, 0}, 1, 1);
        dueOdds(x, new int[] {7, 7, 0, 0, 0, 0}, 21, 64);
        dueOdds(x, new int[] {2, 0, 2, 2, 0, 0}, 0, 1);
        dueOdds(x, new int[] {2, 2, 2, 2, 0, 0}, 1, 1);
        dueOdds(x, new int[] {2, 0, 0, 0, 2, 2}, 0, 1);
        dueOdds(x, new int[] {3, 3, 3, 3, 3, 3}, 1, 1);
        x.hide(0, true);
        dueOdds(x, new int[] {1, 1, 0, 0, 2, 2}, 3, 4);
    }

    private static void would() {
        ActSurgery x = three();
        dueWould(x, new int[] {4, 4, 2, 2, 6, 0}, 1, 2);
        // What is given is as it is, without the act: 1 was 0 and would be 1.
        dueWould(x, new int[] {2, 2, 2, 2, 2, 0}, 1, 1);
        dueWould(x, new int[] {4, 4, 2, 2, 0, 0}, 11, 16);
        dueWould(x, new int[] {4, 4, 2, 2, 1, 1}, 7, 8);
        dueWould(x, new int[] {1, 1, 2, 2, 2, 2}, 3, 4);
        // Nothing SET: what would have been is what is.
        dueWould(x, new int[] {4, 4, 0, 0, 4, 4}, 1, 1);
        dueWould(x, new int[] {4, 0, 0, 0, 4, 4}, 0, 1);
        dueWould(x, new int[] {4, 4, 0, 0, 2, 2}, 25, 32);
        dueWould(x, new int[] {0, 0, 7, 7, 0, 0}, 1, 1);
        // SET as it was: all else is as it was.
        dueWould(x, new int[] {4, 4, 2, 2, 6, 6}, 1, 1);
        // 0 SET to 0, GIVEN 0 and 1 were 1: 1 was less than 12, and would be less than 4.
        dueWould(x, new int[] {2, 2, 1, 0, 3, 3}, 1, 3);
    }

    private static void none() {
        ActSurgery x = three();
        x.weight(0, 0, 0);
        for (int part = 0; part < 2; part++) {
            D.due("14 NONE", x.odds(4, 4, 0, 0, 1, 1, part), -1);
            D.due("14 NONE, nothing asked", x.odds(0, 0, 0, 0, 1, 1, part), -1);
            D.due("14 SET otherwise than GIVEN", x.odds(4, 4, 2, 2, 2, 0, part), -1);
            D.due("15 NONE", x.would(4, 4, 1, 1, 1, 1, part), -1);
            D.due("15 NONE, nothing asked", x.would(0, 0, 0, 0, 3, 1, part), -1);
        }
        dueOdds(x, new int[] {2, 2, 1, 1, 1, 1}, 3, 4);
        dueWould(x, new int[] {2, 2, 1, 1, 1, 0}, 3, 4);
        x.weight(0, 0, 16);
        D.due("14 always 1", x.odds(4, 4, 0, 0, 1, 0, 0), -1);
        dueOdds(x, new int[] {1, 1, 0, 0, 0, 0}, 1, 1);
    }

    private static void most() {
        ActSurgery x = Due.graph(0, 0, 0, 0, 0, 0);
        dueOdds(x, new int[] {63, 21, 0, 0, 0, 0}, 1, 64);
        for (int p = 0; p < 6; p++) {
            x.weight(p, 0, 1);
        }
        dueOdds(x, new int[] {63, 63, 0, 0, 0, 0}, 1, 16777216);
        dueOdds(x, new int[] {63, 0, 0, 0, 0, 0}, 11390625, 16777216);
        dueOdds(x, new int[] {63, 63, 63, 63, 63, 63}, 1, 1);
        dueWould(x, new int[] {63, 63, 0, 0, 0, 0}, 1, 16777216);
        dueWould(x, new int[] {63, 0, 63, 0, 63, 63}, 1, 1);
    }

    private static void badOdds() {
        ActSurgery x = three();
        int[] good = {4, 4, 2, 2, 1, 1, 0};
        D.due("14 good", x.odds(4, 4, 2, 2, 1, 1, 0), 7);
        int[] wrong = {-1, 8, 16, 32, Integer.MIN_VALUE, Integer.MAX_VALUE};
        for (int i = 0; i < 7; i++) {
            for (int w : wrong) {
                int[] b = good.clone();
                b[i] = w;
                D.due("14 odds with " + i + " " + w, x.odds(b[0], b[1], b[2], b[3], b[4], b[5], b[6]), -2);
                D.due("15 would with " + i + " " + w, x.would(b[0], b[1], b[2], b[3], b[4], b[5], b[6]), -2);
            }
        }
        for (int part : new int[] {2, 3}) {
            D.due("14 part " + part, x.odds(4, 4, 2, 2, 1, 1, part), -2);
            D.due("15 part " + part, x.would(4, 4, 2, 2, 1, 1, part), -2);
        }
        // VALUES of other PLACES than the set's.
        int[][] bad = {{4, 1, 2, 2, 1, 1}, {4, 4, 2, 1, 1, 1}, {4, 4, 2, 2, 1, 2}, {0, 1, 0, 0, 0, 0},
            {0, 0, 0, 1, 0, 0}, {0, 0, 0, 0, 0, 1}};
        for (int[] b : bad) {
            D.due("14 VALUES", x.odds(b[0], b[1], b[2], b[3], b[4], b[5], 0), -2);
            D.due("15 VALUES", x.would(b[0], b[1], b[2], b[3], b[4], b[5], 1), -2);
        }
        x.weight(0, 0, 0);
        D.due("14 BAD before NONE", x.odds(4, 4, 0, 0, 1, 1, 2), -2);
        D.due("15 BAD before NONE", x.would(4, 4, 0, 0, 1, 1, 2), -2);
    }

    private static void effect() {
        ActSurgery x = three();
        D.due("16 a on b", x.effect(1, 2), 1792);
        // 0 on 2: by 1, and itself.
        D.due("16 by another", x.effect(0, 2), 16 * (4 * 6 + 12 * 14 - 12 * 2 - 4 * 8));
        D.due("16 of what comes after", x.effect(2, 0), 0);
        D.due("16 of what comes after", x.effect(1, 0), 0);
        x.weight(2, 2, 0);
        x.weight(2, 3, 0);
        D.due("16 less than nothing", x.effect(1, 2), -8 * 16 * (2 + 6));
        x = Due.graph(0, 0, 0, 0, 0, 1);
        x.weight(5, 0, 0);
        x.weight(5, 1, 16);
        D.due("16 all DRAWS", x.effect(0, 5), 16777216);
        x.weight(5, 0, 16);
        x.weight(5, 1, 0);
        D.due("16 less all DRAWS", x.effect(0, 5), -16777216);
        x = Due.graph(0, 1);
        D.due("16 an idle ARROW", x.effect(0, 1), 0);
        x.weight(1, 1, 9);
        D.due("16 the least", x.effect(0, 1), 16);
    }

    private static void swayed() {
        ActSurgery x = three();
        D.due("17 a on b", x.swayed(1, 2), 1792);
        x.weight(2, 3, 3);
        D.due("17 one way only", x.swayed(1, 2), 768);
        D.due("16 both ways", x.effect(1, 2), 384);
        D.due("17 what comes after", x.swayed(2, 1), 0);
        x = Due.graph(0, 0, 0, 0, 0, 1);
        x.weight(5, 0, 0);
        x.weight(5, 1, 16);
        D.due("17 all DRAWS", x.swayed(0, 5), 16777216);
        x.weight(5, 0, 16);
        x.weight(5, 1, 0);
        D.due("17 never so", x.swayed(0, 5), 0);
        // By one between that turns back: 2 is 1 just if 1 is 0, and 1 copies 0.
        x = Due.graph(0, 1, 2);
        x.weight(1, 0, 0);
        x.weight(1, 1, 16);
        x.weight(2, 0, 10);
        x.weight(2, 2, 3);
        D.due("17 turned back", x.swayed(0, 2), 0);
        x.weight(1, 0, 16);
        x.weight(1, 1, 0);
        D.due("17 turned twice", x.swayed(0, 2), 16 * 16 * 7);
    }

    private static void badPairs() {
        ActSurgery x = three();
        int[][] bad = {{0, 0}, {2, 2}, {-1, 0}, {0, -1}, {3, 0}, {0, 3}, {3, 3}, {32, 0}, {0, 32},
            {Integer.MAX_VALUE, 0}, {0, Integer.MIN_VALUE}};
        for (int[] b : bad) {
            D.due("16 effect " + b[0] + " " + b[1], x.effect(b[0], b[1]), -2);
            D.due("17 swayed " + b[0] + " " + b[1], x.swayed(b[0], b[1]), -2);
        }
    }
}
