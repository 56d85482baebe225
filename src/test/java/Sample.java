import java.util.function.Supplier;

/** Makes objects with one and the same graph and OTHER, each a Reference, too; takes at most 154 calls of each. */
final class Sample implements Supplier<ActSurgery> {
    final Reference here;
    final Reference there;

    Sample(Reference here, Reference there) {
        this.here = here;
        this.there = there;
    }

    /** n PLACES with many ARROWS and WEIGHTS of all kinds, these HIDDEN; THE OTHER has 7 - n, which is never n. */
    static Sample of(int n, int hidden) {
        Reference there = rich(7 - n, 11);
        there.hidden = 1;
        Reference here = rich(n, 3);
        here.hidden = hidden;
        return new Sample(here, there);
    }

    private static Reference rich(int n, int first) {
        Reference r = new Reference(n);
        for (int p = 0; p < n; p++) {
            for (int q = 0; q < p; q++) {
                r.arrow[q][p] = (p + q + first) % 3 != 0;
            }
            for (int values = 0; values < 1 << n; values++) {
                r.weight[p][values] = (first + 7 * p + 5 * values) % 17;
            }
        }
        return r;
    }

    @Override
    public ActSurgery get() {
        ActSurgery x = new ActSurgery();
        there.putIn(x);
        x.swap();
        here.putIn(x);
        return x;
    }
}
