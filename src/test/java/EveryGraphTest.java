/** Every graph of one to five PLACES, whatever is HIDDEN: the answers of promises 6 to 13 against Reference. */
public final class EveryGraphTest {
    private static final Due D = new Due();
    private static final int MOST = 5;

    public static void main(String[] args) {
        for (int n = 1; n <= MOST; n++) {
            for (int graph = 0; graph < 1 << n * (n - 1) / 2; graph++) {
                seen(numbered(n, graph));
                for (int hidden = 0; hidden < 1 << n; hidden++) {
                    Reference r = numbered(n, graph);
                    r.hidden = hidden;
                    hidden(r);
                }
            }
        }
        D.end();
    }

    /** Each bit of the number is an ARROW. */
    private static Reference numbered(int n, int graph) {
        Reference r = new Reference(n);
        int bit = 0;
        for (int p = 0; p < n; p++) {
            for (int q = 0; q < p; q++) {
                r.arrow[q][p] = Reference.in(graph, bit++);
            }
        }
        return r;
    }

    private static Fresh made(Reference r) {
        return new Fresh(() -> {
            ActSurgery x = new ActSurgery();
            x.begin(r.n);
            for (int p = 0; p < r.n; p++) {
                x.parents(p, r.parents(p));
                x.hide(p, Reference.in(r.hidden, p));
            }
            return x;
        });
    }

    /** What has nothing to do with what is HIDDEN. */
    private static void seen(Reference r) {
        Fresh x = made(r);
        counts(x, r);
        for (int a = 0; a < r.n; a++) {
            D.due("of(" + a + ", 0)", x.next().of(a, 0), r.parents(a));
            D.due("of(" + a + ", 2)", x.next().of(a, 2), r.after(a));
            D.due("of(" + a + ", 3)", x.next().of(a, 3), r.before(a));
            for (int b = 0; b < r.n; b++) {
                if (a != b) {
                    pair(x, r, a, b);
                }
            }
        }
    }

    private static void counts(Fresh x, Reference r) {
        int[][] like = r.like();
        int arrows = 0;
        int sure = 0;
        for (int p = 0; p < r.n; p++) {
            int to = 0;
            int sureTo = 0;
            for (int q = 0; q < r.n; q++) {
                to |= r.arrow[p][q] ? 1 << q : 0;
                sureTo |= like[1 + p][q] == like[0][0] ? 1 << q : 0;
            }
            arrows += Integer.bitCount(to);
            sure += Integer.bitCount(sureTo);
            D.due("of(" + p + ", 1)", x.next().of(p, 1), to);
            D.due("of(" + p + ", 5)", x.next().of(p, 5), sureTo);
        }
        D.due("count(0)", x.next().count(0), r.n);
        D.due("count(1)", x.next().count(1), arrows);
        D.due("count(3)", x.next().count(3), like[0][0]);
        D.due("count(4)", x.next().count(4), sure);
        D.due("count(6)", x.next().count(6), r.partedPairs());
    }

    private static void pair(Fresh x, Reference r, int a, int b) {
        D.due("parting", x.next().parting(a, b), r.parting(a, b));
        for (int z = 0; z < 1 << r.n; z++) {
            if ((z & (1 << a | 1 << b)) == 0) {
                D.due("parted", x.next().parted(a, b, z), r.parted(a, b, z) ? 1 : 0);
                D.due("ways", x.next().ways(a, b, z), r.ways(a, b, z));
                for (int what = 0; what < 3; what++) {
                    D.due("tells " + what, x.next().tells(what, a, b, z), r.tells(what, a, b, z) ? 1 : 0);
                }
            }
        }
    }

    private static void hidden(Reference r) {
        Fresh x = made(r);
        D.due("count(2)", x.next().count(2), r.hidden);
        D.due("count(5)", x.next().count(5), r.clumps());
        for (int a = 0; a < r.n; a++) {
            D.due("of(" + a + ", 4)", x.next().of(a, 4), r.clump(a));
            D.due("told", x.next().told(a), Reference.in(r.hidden, a) ? -2 : r.told(a) ? 1 : 0);
            for (int b = 0; b < r.n; b++) {
                boolean bad = a == b || (r.hidden & (1 << a | 1 << b)) != 0;
                for (int what = 0; what < 3; what++) {
                    D.due("telling " + what, x.next().telling(what, a, b), bad ? -2 : r.telling(what, a, b));
                }
            }
        }
    }
}
