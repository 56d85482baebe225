import java.util.Random;

/** Graphs drawn by a fixed seed: the program's answers against those of Reference. Promises 6 to 17 and 20. */
public final class ReferenceTest {
    private static final Due D = new Due();
    private static final Random R = new Random(20261115L);

    public static void main(String[] args) {
        for (int round = 0; round < 240; round++) {
            int n = 1 + round % 6;
            ActSurgery x = new ActSurgery();
            Reference r = drawn(x, n, round % 4);
            counts(x, r);
            for (int a = 0; a < n; a++) {
                places(x, r, a);
                for (int b = 0; b < n; b++) {
                    if (a != b) {
                        pair(x, r, a, b);
                    }
                }
            }
        }
        for (int round = 0; round < 120; round++) {
            oddsOf(1 + round % 4);
            alikeOf(1 + round % 3, round);
        }
        oddsOfSix();
        D.end();
    }

    /** A graph in x and the same in a Reference; density 0 has few ARROWS, 3 has many. */
    private static Reference drawn(ActSurgery x, int n, int density) {
        Reference r = new Reference(n);
        x.begin(n);
        for (int p = 0; p < n; p++) {
            for (int q = 0; q < p; q++) {
                r.arrow[q][p] = R.nextInt(4) <= density;
            }
            x.parents(p, r.parents(p));
            for (int values = 0; values < 1 << n; values++) {
                if ((values & ~r.parents(p)) == 0) {
                    int w = R.nextInt(5) == 0 ? R.nextInt(2) * 16 : R.nextInt(17);
                    x.weight(p, values, w);
                    r.weight[p][values] = w;
                }
            }
            if (R.nextInt(3) == 0) {
                x.hide(p, true);
                r.hidden |= 1 << p;
            }
        }
        return r;
    }

    private static void counts(ActSurgery x, Reference r) {
        int arrows = 0;
        int sure = 0;
        int[][] like = r.like();
        for (int p = 0; p < r.n; p++) {
            int sureFrom = 0;
            for (int q = 0; q < r.n; q++) {
                if (r.arrow[p][q]) {
                    arrows++;
                    sureFrom |= like[1 + p][q] == like[0][0] ? 1 << q : 0;
                }
            }
            sure += Integer.bitCount(sureFrom);
            D.due("of SURE", x.of(p, 5), sureFrom);
        }
        int[] due = {r.n, arrows, r.hidden, like[0][0], sure, r.clumps(), r.partedPairs()};
        for (int what = 0; what < due.length; what++) {
            D.due("count " + what, x.count(what), due[what]);
        }
    }

    private static void places(ActSurgery x, Reference r, int p) {
        int children = 0;
        for (int q = 0; q < r.n; q++) {
            children |= r.arrow[p][q] ? 1 << q : 0;
        }
        int[] due = {r.parents(p), children, r.after(p), r.before(p), r.clump(p)};
        for (int what = 0; what < due.length; what++) {
            D.due("of " + what, x.of(p, what), due[what]);
        }
        D.due("told", x.told(p), Reference.in(r.hidden, p) ? -2 : r.told(p) ? 1 : 0);
    }

    private static void pair(ActSurgery x, Reference r, int a, int b) {
        D.due("parting", x.parting(a, b), r.parting(a, b));
        boolean hidden = Reference.in(r.hidden, a) || Reference.in(r.hidden, b);
        for (int what = 0; what < 3; what++) {
            D.due("telling " + what, x.telling(what, a, b), hidden ? -2 : r.telling(what, a, b));
        }
        for (int z = 0; z < 1 << r.n; z++) {
            boolean bad = (z & (1 << a | 1 << b)) != 0;
            D.due("parted", x.parted(a, b, z), bad ? -2 : r.parted(a, b, z) ? 1 : 0);
            if (R.nextInt(8) == 0) {
                D.due("ways", x.ways(a, b, z), bad ? -2 : r.ways(a, b, z));
            }
            for (int what = 0; what < 3; what++) {
                boolean refused = bad || hidden || (z & r.hidden) != 0;
                D.due("tells " + what, x.tells(what, a, b, z), refused ? -2 : r.tells(what, a, b, z) ? 1 : 0);
            }
        }
    }

    private static void oddsOf(int n) {
        ActSurgery x = new ActSurgery();
        Reference r = drawn(x, n, R.nextInt(4));
        for (int i = 0; i < 6; i++) {
            ask(x, r, i % 2 == 1);
        }
        for (int a = 0; a < n; a++) {
            int b = R.nextInt(n);
            D.due("effect", x.effect(a, b), a == b ? -2 : r.effect(a, b));
            D.due("swayed", x.swayed(a, b), a == b ? -2 : r.swayed(a, b));
        }
    }

    private static void ask(ActSurgery x, Reference r, boolean would) {
        int all = (1 << r.n) - 1;
        int q = R.nextInt(all + 1);
        int v = R.nextInt(all + 1) & q;
        int d = R.nextInt(all + 1) & R.nextInt(all + 1);
        int e = R.nextInt(all + 1) & d;
        int g = R.nextInt(all + 1) & R.nextInt(all + 1);
        int h = R.nextInt(all + 1) & g;
        int[] due = r.odds(would, q, v, d, e, g, h);
        for (int part = 0; part < 2; part++) {
            int got = would ? x.would(q, v, d, e, g, h, part) : x.odds(q, v, d, e, g, h, part);
            D.due(would ? "would" : "odds", got, due[part]);
        }
    }

    /** All 16 to the 6 DRAWS of one graph. */
    private static void oddsOfSix() {
        ActSurgery x = new ActSurgery();
        Reference r = drawn(x, 6, 2);
        ask(x, r, false);
        ask(x, r, true);
        ask(x, r, true);
        D.due("effect of six", x.effect(1, 5), r.effect(1, 5));
        D.due("swayed of six", x.swayed(0, 4), r.swayed(0, 4));
    }

    private static void alikeOf(int n, int round) {
        ActSurgery x = new ActSurgery();
        Reference there = drawn(x, n, R.nextInt(4));
        x.keep();
        Reference here = there;
        if (round % 4 == 0) {
            here = drawn(x, 1 + R.nextInt(3), R.nextInt(4));
        } else {
            here = new Reference(n);
            here.hidden = there.hidden;
            for (int p = 0; p < n; p++) {
                here.arrow[p] = there.arrow[p].clone();
                here.weight[p] = there.weight[p].clone();
            }
            change(x, here);
        }
        for (int what = 0; what < 4; what++) {
            D.due("alike " + what, x.alike(what), here.alike(there, what) ? 1 : 0);
        }
        x.swap();
        for (int what = 0; what < 4; what++) {
            D.due("alike " + what, x.alike(what), there.alike(here, what) ? 1 : 0);
        }
    }

    /** One WEIGHT becomes another, one PLACE is HIDDEN or not. */
    private static void change(ActSurgery x, Reference r) {
        int p = R.nextInt(r.n);
        int values = R.nextInt(1 << r.n) & r.parents(p);
        int w = R.nextInt(3) == 0 ? r.weight[p][values] : R.nextInt(17);
        x.weight(p, values, w);
        r.weight[p][values] = w;
        int turned = R.nextInt(r.n);
        r.hidden ^= 1 << turned;
        x.hide(turned, Reference.in(r.hidden, turned));
    }
}
