import java.util.IdentityHashMap;
import java.util.Map;
import java.util.function.Supplier;
import java.util.function.ToIntFunction;

/** Counts the answers that are not the ones that are due. */
final class Due {
    private final Map<Supplier<ActSurgery>, String> untouched = new IdentityHashMap<>();
    private int asked;
    private int wrong;

    void due(String call, long got, long want) {
        asked++;
        if (got != want) {
            wrong++;
            if (wrong <= 50) {
                System.out.println(call + " answered " + got + ", due is " + want);
            }
        }
    }

    /** A call that is refused: BAD, and nothing has changed. */
    void refused(String call, Supplier<ActSurgery> made, ToIntFunction<ActSurgery> asked) {
        leaves(call, made, asked, -2);
    }

    /** A call with this answer, after which nothing has changed. Each one has an object of its own. */
    void leaves(String call, Supplier<ActSurgery> made, ToIntFunction<ActSurgery> asked, int want) {
        ActSurgery x = made.get();
        due(call, asked.applyAsInt(x), want);
        String before = untouched.computeIfAbsent(made, m -> Snapshot.of(m.get()));
        due("what is kept after " + call + " is as before (1 or 0)", Snapshot.of(x).equals(before) ? 1 : 0, 1);
    }

    /** Ends the test: with exit code 1, if an answer was wrong or none was asked for. */
    void end() {
        System.out.println(asked + " answers, " + wrong + " not as due");
        if (wrong != 0 || asked == 0) {
            System.exit(1);
        }
    }

    /** An object with n PLACES and these PARENTS. */
    static ActSurgery graph(int... parents) {
        ActSurgery x = new ActSurgery();
        x.begin(parents.length);
        for (int p = 0; p < parents.length; p++) {
            x.parents(p, parents[p]);
        }
        return x;
    }
}
