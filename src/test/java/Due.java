/** Counts and prints the answers that are not the ones that are due. */
final class Due {
    private static final int MOST_PRINTED = 50;
    private int wrong = 0;
    private String where = "";

    void in(String name) {
        where = name;
    }

    void answer(String call, long got, long want) {
        if (got != want) {
            tell(call + " answered " + got + ", due is " + want);
        }
    }

    void that(String what, boolean holds) {
        if (!holds) {
            tell(what + " does not hold");
        }
    }

    private void tell(String message) {
        wrong++;
        if (wrong <= MOST_PRINTED) {
            System.out.println(where + ": " + message);
        }
    }

    void finish() {
        System.out.println(wrong == 0 ? "all answers are as due" : wrong + " answers are not as due");
        if (wrong != 0) {
            System.exit(1);
        }
    }
}
