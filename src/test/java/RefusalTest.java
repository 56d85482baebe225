import java.util.Random;

/**
 * What is refused changes nothing, nor does what only asks; no call throws, whatever its numbers are. Also that
 * the object answers the same to the same calls.
 */
public final class RefusalTest {
    private static final Due D = new Due();
    private static final int[] EDGES = {Integer.MIN_VALUE, Integer.MIN_VALUE + 1, -33, -32, -3, -2, -1, 0, 1, 2, 3, 4,
        5, 6, 7, 8, 15, 16, 17, 31, 32, 33, 63, 64, 65, 127, 128, 1 << 30, Integer.MAX_VALUE - 1, Integer.MAX_VALUE};

    public static void main(String[] args) {
        for (int seed = 0; seed < 300; seed++) {
            run(seed);
        }
        D.end();
    }

    /** One object has all calls, one the same again, one only those that are to change something. */
    private static void run(int seed) {
        Random r = new Random(seed);
        ActSurgery x = new ActSurgery();
        ActSurgery again = new ActSurgery();
        ActSurgery quiet = new ActSurgery();
        for (int call = 0; call < 200; call++) {
            int which = r.nextInt(19);
            int[] a = new int[7];
            for (int i = 0; i < 7; i++) {
                a[i] = r.nextInt(3) == 0 ? EDGES[r.nextInt(EDGES.length)] : r.nextInt(8);
            }
            int got = call(x, which, a);
            D.due("call " + which + " again", call(again, which, a), got);
            boolean changes = which < 4 || which == 16 || which == 17;
            if (changes && got != -2) {
                D.due("call " + which + " without what was refused", call(quiet, which, a), got);
            }
        }
        String state = Snapshot.of(x);
        D.due("the same calls end alike", Snapshot.of(again).equals(state) ? 1 : 0, 1);
        D.due("what was refused or asked changed nothing", Snapshot.of(quiet).equals(state) ? 1 : 0, 1);
    }

    private static int call(ActSurgery x, int which, int[] a) {
        switch (which) {
            case 0: return x.begin(a[0]);
            case 1: return x.parents(a[0], a[1]);
            case 2: return x.weight(a[0], a[1], a[2]);
            case 3: return x.hide(a[0], a[1] > 4);
            case 4: return x.count(a[0]);
            case 5: return x.of(a[0], a[1]);
            case 6: return x.parted(a[0], a[1], a[2]);
            case 7: return x.parting(a[0], a[1]);
            case 8: return x.ways(a[0], a[1], a[2]);
            case 9: return x.tells(a[0], a[1], a[2], a[3]);
            case 10: return x.telling(a[0], a[1], a[2]);
            case 11: return x.told(a[0]);
            case 12: return x.odds(a[0], a[1], a[2], a[3], a[4], a[5], a[6]);
            case 13: return x.would(a[0], a[1], a[2], a[3], a[4], a[5], a[6]);
            case 14: return x.effect(a[0], a[1]);
            case 15: return x.swayed(a[0], a[1]);
            case 16: return x.swap();
            case 17: return x.keep();
            default: return x.alike(a[0]);
        }
    }
}
