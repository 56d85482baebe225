import java.util.function.Supplier;

/** An object that is made anew in time: after its 512th call what it answers is free. */
final class Fresh {
    private static final int MOST = 256;
    private final Supplier<ActSurgery> made;
    private ActSurgery x;
    private int calls;

    Fresh(Supplier<ActSurgery> made) {
        this.made = made;
    }

    /** The object, for one call that only asks. */
    ActSurgery next() {
        if (x == null || calls == MOST) {
            x = made.get();
            calls = 0;
        }
        calls++;
        return x;
    }
}
