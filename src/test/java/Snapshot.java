/**
 * All that can be known of an object: of this one and of THE OTHER. Reading the WEIGHTS changes them, so that the
 * object is of no use afterwards; it takes some 220 of the 512 calls that an object has.
 */
final class Snapshot {
    private Snapshot() {
    }

    static String of(ActSurgery x) {
        StringBuilder s = new StringBuilder();
        for (int what = 0; what < 4; what++) {
            s.append(x.alike(what));
        }
        for (int side = 0; side < 2; side++) {
            shape(x, s);
            weights(x, s);
            s.append(" swap ").append(x.swap());
        }
        return s.toString();
    }

    private static void shape(ActSurgery x, StringBuilder s) {
        for (int what = 0; what < 7; what++) {
            s.append(what == 0 ? " counts " : ",").append(x.count(what));
        }
        int n = x.count(0);
        for (int p = 0; p < n; p++) {
            for (int what = 0; what < 6; what++) {
                s.append(what == 0 ? " of " : ",").append(x.of(p, what));
            }
        }
    }

    private static void weights(ActSurgery x, StringBuilder s) {
        int n = x.count(0);
        for (int p = 0; p < n; p++) {
            int parents = x.of(p, 0);
            s.append(" weights");
            for (int values = 0; values <= parents; values++) {
                if ((values & ~parents) == 0) {
                    s.append(' ').append(x.weight(p, values, 8));
                }
            }
        }
    }
}
