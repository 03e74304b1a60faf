import java.util.function.IntUnaryOperator;

/** Counts and prints the answers that are not the ones that are due. */
final class Due {
    private static final int MOST_PRINTED = 50;
    private static final int[] NO_PLACES = {
        Integer.MIN_VALUE, Integer.MIN_VALUE + 1, -65536, -256, -33, -32, -31, -2, -1,
        64, 256, 65536, Integer.MAX_VALUE - 1, Integer.MAX_VALUE
    };
    private int wrong = 0;
    private String where = "";

    void in(String name) {
        where = name;
    }

    void answer(String call, long got, long want) {
        if (got != want) {
            tell(call + " answered " + got + ", due is " + want);
        }
    }

    void that(String what, boolean holds) {
        if (!holds) {
            tell(what + " does not hold");
        }
    }

    /** The list is there from place 0 to its end, and nothing before or behind it (48 calls). */
    void list(String call, IntUnaryOperator ask, int... want) {
        for (int i = 0; i <= 33; i++) {
            answer(call + " (" + i + ")", ask.applyAsInt(i), i < want.length ? want[i] : BlockCoder.NONE);
        }
        for (int i : NO_PLACES) {
            answer(call + " (" + i + ")", ask.applyAsInt(i), BlockCoder.NONE);
        }
    }

    void symbols(String text, BlockCoder x, int... want) {
        answer("symbols() of " + text, x.symbols(), want.length);
        list("symbol of " + text, x::symbol, want);
    }

    void empty(BlockCoder x) {
        list("column", x::column);
        answer("mark()", x.mark(), BlockCoder.NONE);
        list("rank", x::rank);
        symbols("nothing", x);
        answer("cost()", x.cost(), 0);
        list("decoded", x::decoded);
        answer("different()", x.different(), 0);
    }

    private void tell(String message) {
        wrong++;
        if (wrong <= MOST_PRINTED) {
            System.out.println(where + ": " + message);
        }
    }

    void finish() {
        System.out.println(wrong == 0 ? "all answers are as due" : wrong + " answers are not as due");
        if (wrong != 0) {
            System.exit(1);
        }
    }
}
