import java.util.Random;

/**
 * What parts and tells by the ARROWS alone (promises 8 and 11) does so in the ODDS (promises 14 to 17): on every graph
 * of four PLACES, with WEIGHTS drawn by a fixed seed that make every row of VALUES likely.
 */
public final class MeaningTest {
    private static final Due D = new Due();
    private static final Random R = new Random(20261116L);
    private static final int N = 4;
    private static final int ALL = (1 << N) - 1;
    private static final int DRAWS = 1 << 4 * N;
    private static final int TRIES = 3;

    public static void main(String[] args) {
        for (int graph = 0; graph < 1 << N * (N - 1) / 2; graph++) {
            Reference[] tries = new Reference[TRIES];
            long[][] seen = new long[TRIES][];
            for (int i = 0; i < TRIES; i++) {
                tries[i] = drawn(graph);
                seen[i] = drawsOfAllValues(tries[i].made());
            }
            for (int pair = 0; pair < N * N; pair++) {
                int a = pair / N;
                int b = pair % N;
                if (a != b) {
                    parted(tries, seen, a, b);
                    tells(tries[0], seen[0], a, b);
                    sways(tries[0], a, b);
                }
            }
        }
        D.end();
    }

    private static Reference drawn(int graph) {
        Reference r = new Reference(N);
        int bit = 0;
        for (int p = 0; p < N; p++) {
            for (int q = 0; q < p; q++) {
                r.arrow[q][p] = Reference.in(graph, bit++);
            }
            for (int values = 0; values <= ALL; values++) {
                r.weight[p][values] = 1 + R.nextInt(15);
            }
        }
        return r;
    }

    private static long[] drawsOfAllValues(ActSurgery x) {
        long[] draws = new long[ALL + 1];
        for (int v = 0; v <= ALL; v++) {
            draws[v] = (long) x.odds(ALL, v, 0, 0, 0, 0, 0) * DRAWS / x.odds(ALL, v, 0, 0, 0, 0, 1);
        }
        return draws;
    }

    private static long those(long[] seen, int set, int values) {
        long draws = 0;
        for (int v = 0; v <= ALL; v++) {
            draws += (v & set) == (values & set) ? seen[v] : 0;
        }
        return draws;
    }

    /** What is PARTED tells nothing of one another, GIVEN Z; what is not does so, but by chance of the WEIGHTS. */
    private static void parted(Reference[] tries, long[][] seen, int a, int b) {
        ActSurgery x = tries[0].made();
        for (int z = 0; z <= ALL; z++) {
            if ((z & (1 << a | 1 << b)) == 0) {
                int apart = 0;
                for (long[] draws : seen) {
                    apart += isApart(draws, a, b, z) ? 1 : 0;
                }
                int parted = x.parted(a, b, z);
                String call = "parted(" + a + ", " + b + ", " + z + ")";
                D.due(call + " by the ODDS", parted, apart == TRIES ? 1 : 0);
                D.due(call + " and WAYS", parted, x.ways(a, b, z) == 0 ? 1 : 0);
            }
        }
    }

    private static boolean isApart(long[] seen, int a, int b, int z) {
        for (int v = 0; v <= ALL; v++) {
            long both = those(seen, z | 1 << a | 1 << b, v);
            if (both * those(seen, z, v) != those(seen, z | 1 << a, v) * those(seen, z | 1 << b, v)) {
                return false;
            }
        }
        return true;
    }

    /** "sets that tell an act's effect from what is seen alone, behind the back and through the front". */
    private static void tells(Reference r, long[] seen, int a, int b) {
        Fresh x = new Fresh(r::made);
        double due = x.next().effect(a, b);
        for (int set = 0; set <= ALL; set++) {
            if ((set & (1 << a | 1 << b)) == 0) {
                if (x.next().tells(0, a, b, set) == 1) {
                    dueNear("the effect by the BACK SET " + set, back(seen, a, b, set), due);
                }
                if (x.next().tells(1, a, b, set) == 1) {
                    dueNear("the effect by the FRONT SET " + set, front(seen, a, b, set), due);
                }
            }
        }
    }

    private static void dueNear(String what, double got, double due) {
        String both = what + ", " + got + " by what is seen, " + due + " by acts (1 or 0)";
        D.due(both, Math.abs(got - due) < 1e-6 ? 1 : 0, 1);
    }

    /** As many of those with these VALUES of the set as have the others, too. */
    private static double share(long[] seen, int set, int more, int values) {
        return (double) those(seen, set | more, values) / those(seen, set, values);
    }

    private static double back(long[] seen, int a, int b, int z) {
        double effect = 0;
        for (int v = 0; v <= ALL; v++) {
            if ((v & ~z) == 0) {
                double when1 = share(seen, z | 1 << a, 1 << b, v | 1 << a | 1 << b);
                double when0 = share(seen, z | 1 << a, 1 << b, v | 1 << b);
                effect += those(seen, z, v) * (when1 - when0);
            }
        }
        return effect;
    }

    private static double front(long[] seen, int a, int b, int m) {
        double effect = 0;
        for (int v = 0; v <= ALL; v++) {
            if ((v & ~m) == 0) {
                double after = 0;
                for (int was = 0; was < 2; was++) {
                    int values = v | was << a | 1 << b;
                    after += those(seen, 1 << a, values) * share(seen, m | 1 << a, 1 << b, values);
                }
                effect += after * (share(seen, 1 << a, m, v | 1 << a) - share(seen, 1 << a, m, v));
            }
        }
        return effect;
    }

    /** The effect is what is swayed, less what is swayed the other way: as much as with b turned round. */
    private static void sways(Reference r, int a, int b) {
        ActSurgery x = r.made();
        int effect = x.effect(a, b);
        int swayed = x.swayed(a, b);
        for (int values = 0; values < r.weight[b].length; values++) {
            r.weight[b][values] = 16 - r.weight[b][values];
        }
        int back = r.made().swayed(a, b);
        for (int values = 0; values < r.weight[b].length; values++) {
            r.weight[b][values] = 16 - r.weight[b][values];
        }
        D.due("effect(" + a + ", " + b + ") by what is swayed", effect, swayed - back);
    }
}
