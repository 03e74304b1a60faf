/** Compares the program with the model: every short text, and long runs of mixed calls. */
public final class ModelTest {
    private static final int MOST_CALLS = 512;
    private static final int[] ODD_NUMBERS = {
        Integer.MIN_VALUE, Integer.MIN_VALUE + 1, -33, -2, -1, 6, 7, 31, 32, 33, 64,
        Integer.MAX_VALUE - 31, Integer.MAX_VALUE - 1, Integer.MAX_VALUE
    };
    private static final Due DUE = new Due();
    private static long seed = 20261115L;

    public static void main(String[] args) {
        everyText(6, 5);
        everyText(3, 8);
        everyText(2, 12);
        for (int run = 0; run < 1000; run++) {
            mixedRun(run);
        }
        for (int run = 0; run < 2000; run++) {
            longText(run);
        }
        DUE.finish();
    }

    private static void everyText(int kinds, int longest) {
        for (int n = 0; n <= longest; n++) {
            int texts = 1;
            for (int k = 0; k < n; k++) {
                texts *= kinds;
            }
            for (int number = 0; number < texts; number++) {
                BlockCoder x = new BlockCoder();
                Model model = new Model();
                for (int k = 0, rest = number; k < n; k++, rest /= kinds) {
                    // The highest letters, so that the first ranks are not the smallest.
                    int letter = kinds == 2 ? 3 + rest % kinds : 6 - kinds + rest % kinds;
                    x.type(letter);
                    model.type(letter);
                }
                DUE.in("text " + model.text);
                compare(x, model);
            }
        }
    }

    /** Texts of 20 to 32 letters in which few letters are often there, or all are. */
    private static void longText(int run) {
        BlockCoder x = new BlockCoder();
        Model model = new Model();
        int kinds = 1 + below(6);
        int n = 20 + below(13);
        int before = below(6);
        for (int k = 0; k < n; k++) {
            before = below(3) == 0 ? before : below(kinds);
            x.type(before);
            model.type(before);
        }
        DUE.in("long text " + run + " " + model.text);
        compare(x, model);
    }

    private static void mixedRun(int run) {
        BlockCoder x = new BlockCoder();
        Model model = new Model();
        int kinds = 1 + below(6);
        int clears = below(3) == 0 ? 8 : 60;
        for (int call = 0; call < MOST_CALLS; call++) {
            DUE.in("run " + run + " call " + call + " on " + model.text);
            if (below(clears) == 0) {
                DUE.answer("clear()", x.clear(), model.clear());
            } else {
                oneCall(x, model, kinds);
            }
        }
    }

    private static void oneCall(BlockCoder x, Model model, int kinds) {
        int odd = ODD_NUMBERS[below(ODD_NUMBERS.length)];
        boolean usual = below(6) != 0;
        int i = usual ? below(33) : odd;
        switch (below(12)) {
            case 0, 1, 2 -> {
                int letter = usual ? below(kinds) : odd;
                DUE.answer("type(" + letter + ")", x.type(letter), model.type(letter));
            }
            case 3 -> {
                int count = usual ? below(9) : odd;
                DUE.answer("repeat(" + count + ")", x.repeat(count), model.repeat(count));
            }
            case 4 -> DUE.answer("column(" + i + ")", x.column(i), Model.at(model.column, i));
            case 5 -> DUE.answer("mark()", x.mark(), model.mark);
            case 6 -> DUE.answer("rank(" + i + ")", x.rank(i), Model.at(model.ranks, i));
            case 7 -> DUE.answer("symbols()", x.symbols(), model.symbols.size());
            case 8 -> DUE.answer("symbol(" + i + ")", x.symbol(i), Model.at(model.symbols, i));
            case 9 -> DUE.answer("cost()", x.cost(), model.cost);
            case 10 -> DUE.answer("decoded(" + i + ")", x.decoded(i), Model.at(model.text, i));
            default -> DUE.answer("different()", x.different(), model.different);
        }
    }

    private static void compare(BlockCoder x, Model model) {
        DUE.answer("mark()", x.mark(), model.mark);
        DUE.answer("symbols()", x.symbols(), model.symbols.size());
        DUE.answer("cost()", x.cost(), model.cost);
        DUE.answer("different()", x.different(), model.different);
        int last = model.text.size();
        for (int i = -1; i <= last; i++) {
            DUE.answer("column(" + i + ")", x.column(i), Model.at(model.column, i));
            DUE.answer("rank(" + i + ")", x.rank(i), Model.at(model.ranks, i));
            DUE.answer("symbol(" + i + ")", x.symbol(i), Model.at(model.symbols, i));
            DUE.answer("decoded(" + i + ")", x.decoded(i), Model.at(model.text, i));
        }
    }

    /** The same numbers in every run, so that a failure can be seen again. */
    private static int below(int bound) {
        seed = seed * 6364136223846793005L + 1442695040888963407L;
        return (int) ((seed >>> 33) % bound);
    }
}
