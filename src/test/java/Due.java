/** Counts the answers that are not the ones that are due. */
final class Due {
    private int asked;
    private int wrong;

    void due(String call, long got, long want) {
        asked++;
        if (got != want) {
            wrong++;
            if (wrong <= 50) {
                System.out.println(call + " answered " + got + ", due is " + want);
            }
        }
    }

    /** Ends the test: with exit code 1, if an answer was wrong or none was asked for. */
    void end() {
        System.out.println(asked + " answers, " + wrong + " not as due");
        if (wrong != 0 || asked == 0) {
            System.exit(1);
        }
    }

    /** An object with n PLACES and these PARENTS. */
    static ActSurgery graph(int... parents) {
        ActSurgery x = new ActSurgery();
        x.begin(parents.length);
        for (int p = 0; p < parents.length; p++) {
            x.parents(p, parents[p]);
        }
        return x;
    }
}
