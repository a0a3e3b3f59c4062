/** Counts answers that are not due, for the tests beside it. */
final class Checks {
    private static final int MOST_TOLD = 40;

    private int done;
    private int wrong;

    void due(String what, long got, long want) {
        done++;
        if (got != want) {
            wrong++;
            if (wrong <= MOST_TOLD) {
                System.out.println(what + " answered " + got + ", due is " + want);
            }
        }
    }

    void isTrue(String what, boolean holds) {
        due(what, holds ? 1 : 0, 1);
    }

    int done() {
        return done;
    }

    /** Ends the test: exit code 1 if an answer was wrong. */
    void end() {
        System.out.println(done + " answers, " + wrong + " wrong");
        if (wrong != 0 || done == 0) {
            System.exit(1);
        }
    }
}
