import java.util.ArrayList;
import java.util.Arrays;
import java.util.List;

/**
 * Texts for the tests, and what an object answers to every question (at most 140 calls), so that two
 * moments can be compared.
 */
final class Answers {
    /** A full text without any order, so that a letter at a wrong place is seen. */
    private static final int[] MIXED = {
        3, 0, 5, 5, 1, 0, 0, 2, 4, 4, 1, 3, 5, 0, 2, 2, 1, 5, 4, 0, 3, 3, 1, 2, 0, 5, 2, 4, 4, 1, 0, 3
    };

    private Answers() {
    }

    /**
     * Asks first what is there in a text of n letters, and only then what is not: a refused
     * question that changed something would else change it before it could be seen.
     */
    static List<Integer> of(BlockCoder x, int n) {
        List<Integer> all = new ArrayList<>();
        int symbols = x.symbols();
        all.add(symbols);
        all.add(x.cost());
        all.add(x.different());
        for (int i = 0; i < n; i++) {
            all.add(x.column(i));
            all.add(x.rank(i));
            all.add(x.decoded(i));
        }
        for (int i = 0; i < symbols; i++) {
            all.add(x.symbol(i));
        }
        all.add(x.mark());
        for (int i : new int[] {n, -1}) {
            all.add(x.column(i));
            all.add(x.rank(i));
            all.add(x.decoded(i));
            all.add(x.symbol(i));
        }
        return all;
    }

    static int[] mixedLetters(int n) {
        return Arrays.copyOf(MIXED, n);
    }

    static BlockCoder mixed(int n) {
        return typed(mixedLetters(n));
    }

    static BlockCoder typed(int... letters) {
        BlockCoder x = new BlockCoder();
        for (int letter : letters) {
            x.type(letter);
        }
        return x;
    }
}
