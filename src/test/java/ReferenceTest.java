import java.util.Random;

/** Graphs drawn by a fixed seed: the program's answers against those of Reference. Promises 6 to 17 and 20. */
public final class ReferenceTest {
    private static final Due D = new Due();
    private static final Random R = new Random(20261115L);

    public static void main(String[] args) {
        for (int round = 0; round < 240; round++) {
            int n = 1 + round % 6;
            Reference r = drawn(n, round % 4);
            Fresh x = new Fresh(r::made);
            counts(x, r);
            for (int a = 0; a < n; a++) {
                places(x, r, a);
                for (int b = 0; b < n; b++) {
                    if (a != b) {
                        pair(x, r, a, b);
                    }
                }
            }
        }
        for (int round = 0; round < 120; round++) {
            oddsOf(1 + round % 4);
            alikeOf(1 + round % 3, round);
        }
        oddsOfSix();
        D.end();
    }

    /** Density 0 has few ARROWS, 3 has all. */
    private static Reference drawn(int n, int density) {
        Reference r = new Reference(n);
        for (int p = 0; p < n; p++) {
            for (int q = 0; q < p; q++) {
                r.arrow[q][p] = R.nextInt(4) <= density;
            }
            for (int values = 0; values < 1 << n; values++) {
                r.weight[p][values] = R.nextInt(5) == 0 ? R.nextInt(2) * 16 : R.nextInt(17);
            }
            if (R.nextInt(3) == 0) {
                r.hidden |= 1 << p;
            }
        }
        return r;
    }

    private static void counts(Fresh x, Reference r) {
        int arrows = 0;
        int sure = 0;
        int[][] like = r.like();
        for (int p = 0; p < r.n; p++) {
            int sureFrom = 0;
            for (int q = 0; q < r.n; q++) {
                if (r.arrow[p][q]) {
                    arrows++;
                    sureFrom |= like[1 + p][q] == like[0][0] ? 1 << q : 0;
                }
            }
            sure += Integer.bitCount(sureFrom);
            D.due("of SURE", x.next().of(p, 5), sureFrom);
        }
        int[] due = {r.n, arrows, r.hidden, like[0][0], sure, r.clumps(), r.partedPairs()};
        for (int what = 0; what < due.length; what++) {
            D.due("count " + what, x.next().count(what), due[what]);
        }
    }

    private static void places(Fresh x, Reference r, int p) {
        int children = 0;
        for (int q = 0; q < r.n; q++) {
            children |= r.arrow[p][q] ? 1 << q : 0;
        }
        int[] due = {r.parents(p), children, r.after(p), r.before(p), r.clump(p)};
        for (int what = 0; what < due.length; what++) {
            D.due("of " + what, x.next().of(p, what), due[what]);
        }
        D.due("told", x.next().told(p), Reference.in(r.hidden, p) ? -2 : r.told(p) ? 1 : 0);
    }

    private static void pair(Fresh x, Reference r, int a, int b) {
        D.due("parting", x.next().parting(a, b), r.parting(a, b));
        boolean hidden = Reference.in(r.hidden, a) || Reference.in(r.hidden, b);
        for (int what = 0; what < 3; what++) {
            D.due("telling " + what, x.next().telling(what, a, b), hidden ? -2 : r.telling(what, a, b));
        }
        for (int z = 0; z < 1 << r.n; z++) {
            boolean bad = (z & (1 << a | 1 << b)) != 0;
            D.due("parted", x.next().parted(a, b, z), bad ? -2 : r.parted(a, b, z) ? 1 : 0);
            if (R.nextInt(8) == 0) {
                D.due("ways", x.next().ways(a, b, z), bad ? -2 : r.ways(a, b, z));
            }
            for (int what = 0; what < 3; what++) {
                boolean refused = bad || hidden || (z & r.hidden) != 0;
                D.due("tells " + what, x.next().tells(what, a, b, z), refused ? -2 : r.tells(what, a, b, z) ? 1 : 0);
            }
        }
    }

    private static void oddsOf(int n) {
        Reference r = drawn(n, R.nextInt(4));
        ActSurgery x = r.made();
        for (int i = 0; i < 6; i++) {
            ask(x, r, i % 2 == 1);
        }
        for (int a = 0; a < n; a++) {
            int b = R.nextInt(n);
            D.due("effect", x.effect(a, b), a == b ? -2 : r.effect(a, b));
            D.due("swayed", x.swayed(a, b), a == b ? -2 : r.swayed(a, b));
        }
    }

    private static void ask(ActSurgery x, Reference r, boolean would) {
        int all = (1 << r.n) - 1;
        int q = R.nextInt(all + 1);
        int v = R.nextInt(all + 1) & q;
        int d = R.nextInt(all + 1) & R.nextInt(all + 1);
        int e = R.nextInt(all + 1) & d;
        int g = R.nextInt(all + 1) & R.nextInt(all + 1);
        int h = R.nextInt(all + 1) & g;
        int[] due = r.odds(would, q, v, d, e, g, h);
        for (int part = 0; part < 2; part++) {
            int got = would ? x.would(q, v, d, e, g, h, part) : x.odds(q, v, d, e, g, h, part);
            D.due(would ? "would" : "odds", got, due[part]);
        }
    }

    /** All 16 to the 6 DRAWS of one graph. */
    private static void oddsOfSix() {
        Reference r = drawn(6, 2);
        ActSurgery x = r.made();
        ask(x, r, false);
        ask(x, r, true);
        ask(x, r, true);
        D.due("effect of six", x.effect(1, 5), r.effect(1, 5));
        D.due("swayed of six", x.swayed(0, 4), r.swayed(0, 4));
    }

    private static void alikeOf(int n, int round) {
        Reference there = drawn(n, R.nextInt(4));
        Reference here = round % 4 == 0 ? drawn(1 + R.nextInt(3), R.nextInt(4)) : changed(there);
        ActSurgery x = new Sample(here, there).get();
        for (int what = 0; what < 4; what++) {
            D.due("alike " + what, x.alike(what), here.alike(there, what) ? 1 : 0);
        }
        x.swap();
        for (int what = 0; what < 4; what++) {
            D.due("alike " + what, x.alike(what), there.alike(here, what) ? 1 : 0);
        }
    }

    /** One WEIGHT is another, one PLACE is HIDDEN or not. */
    private static Reference changed(Reference from) {
        Reference r = new Reference(from.n);
        for (int p = 0; p < r.n; p++) {
            r.arrow[p] = from.arrow[p].clone();
            r.weight[p] = from.weight[p].clone();
        }
        int p = R.nextInt(r.n);
        int values = R.nextInt(1 << r.n) & r.parents(p);
        r.weight[p][values] = R.nextInt(3) == 0 ? r.weight[p][values] : R.nextInt(17);
        r.hidden = from.hidden ^ 1 << R.nextInt(r.n);
        return r;
    }
}
