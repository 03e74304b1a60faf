import java.util.Arrays;
import java.util.stream.IntStream;

/** Texts that reach an edge of the terms. */
final class Texts {
    /** No two ranks 0 of these 32 letters stand side by side: every rank is one symbol. */
    static final int[] WITH_32_SYMBOLS = {
        3, 1, 3, 1, 0, 3, 5, 3, 0, 2, 1, 1, 3, 2, 0, 0, 2, 2, 1, 3, 2, 1, 0, 0, 2, 3, 1, 0, 3, 1, 3, 0
    };

    /** The seven symbols come 12, 7, 4, 3, 1, 1 and 1 times: only with six bits it costs 67. */
    static final int[] WITH_DEEPEST_CODE = {
        1, 0, 2, 0, 0, 1, 0, 0, 2, 0, 2, 2, 2, 2, 2, 3, 1, 1, 1, 0, 2, 1, 1, 2, 0, 2, 0, 2, 1, 2, 5, 0
    };

    /**
     * The symbol 1 comes once and each of the six others five times: it costs 88, and no text
     * costs more.
     *
     * If all seven symbols occur, one list of two bits and six of three bits are a code. With N
     * symbols, of which the most frequent one has the two bits, it costs 3 N less the times that
     * one occurs. The symbol 1 stands for two ranks at least, so N is at most 31, and with N = 31
     * some symbol comes five times at least: 3 * 31 - 5 = 88. With N = 30 or 29 it is 3 N - 5 at
     * most, and below that 3 * 28.
     *
     * If at most six symbols occur, two lists of two bits and four of three bits are a code. N is
     * at most 32, and the two most frequent symbols come N / 3 times together at least:
     * 3 * 32 - 11 = 85 at most.
     */
    static final int[][] DEAREST = {
        {5, 0, 2, 2, 5, 0, 5, 5, 1, 0, 2, 4, 3, 1, 3, 4, 3, 4, 4, 4, 4, 3, 3, 0, 0, 2, 2, 0, 3, 1, 4, 3},
        {3, 2, 0, 1, 1, 4, 0, 5, 1, 1, 0, 1, 1, 5, 1, 0, 5, 4, 1, 3, 2, 2, 0, 3, 4, 4, 3, 4, 4, 1, 1, 5},
        {0, 0, 4, 4, 1, 1, 2, 4, 3, 5, 3, 3, 4, 4, 2, 1, 3, 0, 4, 0, 5, 4, 3, 2, 1, 4, 1, 5, 3, 3, 1, 3}
    };

    private Texts() {
    }

    static int[] filled(int n, int letter) {
        return IntStream.range(0, n).map(k -> letter).toArray();
    }

    static int[] alternating(int n, int even, int odd) {
        return IntStream.range(0, n).map(k -> k % 2 == 0 ? even : odd).toArray();
    }

    static int[] rotation(int[] text, int p) {
        return IntStream.range(0, text.length).map(k -> text[(p + k) % text.length]).toArray();
    }

    static int[] withLetter(int[] text, int place, int letter) {
        int[] other = Arrays.copyOf(text, text.length);
        other[place] = letter;
        return other;
    }
}
