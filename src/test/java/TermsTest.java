import java.util.ArrayList;
import java.util.Arrays;
import java.util.List;
import java.util.TreeMap;

/**
 * Holds the answers against the words of the document's terms, one sentence after the other:
 * each stage is taken from what the object answered for the stage before it, so that a wrong
 * answer is told for the stage where it arose.
 */
public final class TermsTest {
    private static final int NONE = -3;
    private static final Due DUE = new Due();
    private static int greatestCost = 0;

    public static void main(String[] args) {
        everyTextOfUpTo6Letters();
        special(Texts.WITH_32_SYMBOLS);
        special(Texts.WITH_DEEPEST_CODE);
        for (int[] text : Texts.DEAREST) {
            special(text);
        }
        for (int n = 1; n <= 32; n++) {
            special(Answers.mixedLetters(n));
        }
        runsAndPeriods();
        DUE.in("promise 10, all texts of this test");
        DUE.answer("the greatest cost", greatestCost, 88);
        DUE.finish();
    }

    private static void everyTextOfUpTo6Letters() {
        holds();
        for (int n = 1, texts = 6; n <= 6; n++, texts *= 6) {
            for (int number = 0; number < texts; number++) {
                int[] text = new int[n];
                for (int k = 0, rest = number; k < n; k++, rest /= 6) {
                    text[k] = rest % 6;
                }
                holds(text);
            }
        }
    }

    /** The text, its rotations, its beginnings, and all texts that differ from it in one letter. */
    private static void special(int[] text) {
        for (int p = 0; p < text.length; p++) {
            holds(Texts.rotation(text, p));
            holds(Arrays.copyOf(text, p + 1));
            for (int letter = 0; letter <= 5; letter++) {
                holds(Texts.withLetter(text, p, letter));
            }
        }
    }

    private static void runsAndPeriods() {
        for (int n = 1; n <= 32; n++) {
            for (int letter = 0; letter <= 5; letter++) {
                holds(Texts.filled(n, letter));
                holds(Texts.alternating(n, letter, 5 - letter));
                for (int place = 0; place < n; place++) {
                    holds(Texts.withLetter(Texts.filled(n, letter), place, (letter + 1) % 6));
                }
            }
            for (int period = 3; period < n; period++) {
                int length = period;
                int[] text = Answers.mixedLetters(n);
                Arrays.setAll(text, k -> Answers.mixedLetters(32)[k % length]);
                holds(text);
            }
        }
    }

    private static void holds(int... text) {
        BlockCoder x = Answers.typed(text);
        int n = text.length;
        DUE.in("text " + Arrays.toString(text));
        columnAndMark(x, text);
        ranks(x, n);
        symbols(x, n);
        codes(x);
        for (int i = 0; i < n; i++) {
            DUE.answer("decoded(" + i + ")", x.decoded(i), text[i]);
        }
        DUE.answer("decoded(" + n + ")", x.decoded(n), NONE);
    }

    // ---- "The COLUMN is the list of the last letters of the sorted rotations .." ----

    private static void columnAndMark(BlockCoder x, int[] text) {
        int n = text.length;
        for (int p = 0; p < n; p++) {
            int number = 0;
            for (int q = 0; q < n; q++) {
                number += q != p && goesFirst(text, q, p) ? 1 : 0;
            }
            DUE.answer("column(" + number + ")", x.column(number), Texts.rotation(text, p)[n - 1]);
            if (p == 0) {
                DUE.answer("mark()", x.mark(), number);
            }
        }
        DUE.answer("column(" + n + ")", x.column(n), NONE);
        if (n == 0) {
            DUE.answer("mark()", x.mark(), NONE);
        }
    }

    /** "The smaller letter at the first place where two differ first; equal ones by p." */
    private static boolean goesFirst(int[] text, int p, int q) {
        int place = Arrays.mismatch(Texts.rotation(text, p), Texts.rotation(text, q));
        if (place < 0) {
            return p < q;
        }
        return Texts.rotation(text, p)[place] < Texts.rotation(text, q)[place];
    }

    // ---- "The RANKS: there is a row of the letters 0 to 5 .." ----

    private static void ranks(BlockCoder x, int n) {
        List<Integer> row = new ArrayList<>(List.of(0, 1, 2, 3, 4, 5));
        for (int i = 0; i < n; i++) {
            int before = row.indexOf(x.column(i));
            DUE.answer("rank(" + i + ")", x.rank(i), before);
            if (before >= 0) {
                row.add(0, row.remove(before));
            }
        }
        DUE.answer("rank(" + n + ")", x.rank(n), NONE);
    }

    // ---- "The SYMBOLS: in the list of ranks every rank r above 0 becomes .." ----

    private static void symbols(BlockCoder x, int n) {
        List<Integer> want = new ArrayList<>();
        int m = 0;
        for (int i = 0; i <= n; i++) {
            int r = x.rank(i);
            if (r == 0) {
                m++;
                continue;
            }
            while (m > 0) {
                boolean odd = m % 2 == 1;
                want.add(odd ? 0 : 1);
                m = odd ? (m - 1) / 2 : (m - 2) / 2;
            }
            if (r > 0) {
                want.add(r + 1);
            }
        }
        DUE.answer("symbols()", x.symbols(), want.size());
        for (int i = 0; i < want.size(); i++) {
            DUE.answer("symbol(" + i + ")", x.symbol(i), want.get(i));
        }
        DUE.answer("symbol(" + want.size() + ")", x.symbol(want.size()), NONE);
    }

    // ---- "A CODE gives every symbol that occurs a list of one or more bits .." ----

    private static void codes(BlockCoder x) {
        TreeMap<Integer, Integer> times = new TreeMap<>();
        for (int i = 0; i < x.symbols(); i++) {
            times.merge(x.symbol(i), 1, Integer::sum);
        }
        DUE.answer("different()", x.different(), times.size());
        int[] counts = times.values().stream().mapToInt(Integer::intValue).toArray();
        DUE.answer("cost()", x.cost(), leastCost(counts));
        greatestCost = Math.max(greatestCost, x.cost());
    }

    /**
     * The smallest cost among all codes. No list is the beginning of another one's just if that
     * holds for the lists that begin with 0, for those that begin with 1, and no list has ended
     * while there are others. So all ways to part the symbols by their first bit are tried, and
     * for each part all ways to go on; a bit that all lists share could be left out.
     */
    private static int leastCost(int[] counts) {
        if (counts.length <= 1) {
            return Arrays.stream(counts).sum();
        }
        int[] least = new int[1 << counts.length];
        for (int set = 1; set < least.length; set++) {
            int occur = 0;
            for (int k = 0; k < counts.length; k++) {
                occur += (set >> k & 1) * counts[k];
            }
            for (int part = (set - 1) & set; part > 0; part = (part - 1) & set) {
                int cost = occur + least[part] + least[set - part];
                least[set] = least[set] == 0 ? cost : Math.min(least[set], cost);
            }
        }
        return least[least.length - 1];
    }
}
