import java.util.Arrays;

/**
 * The boundary cases of the questions (promises 5 to 12) and of the terms they speak in: one
 * method for each sentence of the document that names one. The answers are worked out by hand,
 * but for the symbols of the long texts in Texts, which a program found; TermsTest holds those
 * against the terms stage by stage.
 */
public final class QuestionBoundaryTest {
    private static final int NONE = -3;
    private static final int[] LENGTHS = {0, 1, 2, 31, 32};
    private static final Due DUE = new Due();

    /**
     * What a run of m ranks 0 becomes, from 1 to 32: 0 and what (m - 1) / 2 becomes if m is odd,
     * else 1 and what (m - 2) / 2 becomes; nothing follows where that is 0.
     */
    private static final int[][] RUNS = {
        {0}, {1},
        {0, 0}, {1, 0}, {0, 1}, {1, 1},
        {0, 0, 0}, {1, 0, 0}, {0, 1, 0}, {1, 1, 0}, {0, 0, 1}, {1, 0, 1}, {0, 1, 1}, {1, 1, 1},
        {0, 0, 0, 0}, {1, 0, 0, 0}, {0, 1, 0, 0}, {1, 1, 0, 0},
        {0, 0, 1, 0}, {1, 0, 1, 0}, {0, 1, 1, 0}, {1, 1, 1, 0},
        {0, 0, 0, 1}, {1, 0, 0, 1}, {0, 1, 0, 1}, {1, 1, 0, 1},
        {0, 0, 1, 1}, {1, 0, 1, 1}, {0, 1, 1, 1}, {1, 1, 1, 1},
        {0, 0, 0, 0, 0}, {1, 0, 0, 0, 0}
    };

    public static void main(String[] args) {
        columnIsNoneWhereThereIsNone();
        rotationsGoOnFromPlace0();
        rotationsSortByTheFirstDifference();
        rotationsSortByALateDifference();
        equalRotationsSortByTheSmallerFirst();
        markIsNoneForAnEmptyText();
        markIsANumberFrom0();
        rankIsNoneWhereThereIsNone();
        rowIsAscendingAtFirst();
        ranksAreFrom0To5();
        letterMovesToTheFront();
        symbolsOfNothingAndAtMost();
        symbolIsNoneWhereThereIsNone();
        rankAbove0BecomesOneMore();
        runsOfEveryLength();
        runsAreTheLargest();
        costOfNoSymbols();
        costIsABitAtLeast();
        costIsTheLeast();
        costWithTheLongestLists();
        costIsNeverAbove88();
        decodedIsNoneWhereThereIsNone();
        decodedTakesTheMark();
        decodedWithEveryShapeOfCode();
        differentFromNoneToAll();
        DUE.finish();
    }

    // ---- Promises 5, 7, 9, 11: "NONE if there is none." ----
    //
    // The text 0 1 1 .. 1: its rotations sort by the number of letters 1 before the 0, so the
    // column is 1 1 .. 1 0 and the ranks are 1 0 .. 0 1.

    private static void columnIsNoneWhereThereIsNone() {
        for (int n : LENGTHS) {
            DUE.in("promise 5: NONE if there is none, on " + n + " letters");
            int[] want = n == 0 ? new int[0] : n == 1 ? new int[] {0} : joined(Texts.filled(n - 1, 1), 0);
            DUE.list("column", zeroAndOnes(n)::column, want);
            DUE.list("column after a full text", afterAFullText(n)::column, want);
        }
    }

    private static void rankIsNoneWhereThereIsNone() {
        for (int n : LENGTHS) {
            DUE.in("promise 7: NONE if there is none, on " + n + " letters");
            int[] want = Texts.filled(n, 0);
            if (n >= 2) {
                want[0] = 1;
                want[n - 1] = 1;
            }
            DUE.list("rank", zeroAndOnes(n)::rank, want);
            DUE.list("rank after a full text", afterAFullText(n)::rank, want);
        }
    }

    private static void symbolIsNoneWhereThereIsNone() {
        int[][] wants = {{}, {0}, {2, 2}, {2, 0, 1, 1, 1, 2}, {2, 1, 1, 1, 1, 2}};
        for (int k = 0; k < LENGTHS.length; k++) {
            DUE.in("promise 9: NONE if there is none, on " + LENGTHS[k] + " letters");
            DUE.list("symbol", zeroAndOnes(LENGTHS[k])::symbol, wants[k]);
            DUE.list("symbol after a full text", afterAFullText(LENGTHS[k])::symbol, wants[k]);
        }
        DUE.in("promise 9: NONE if there is none, with 32 symbols");
        DUE.list("symbol", Answers.typed(Texts.WITH_32_SYMBOLS)::symbol, 3, 3, 4, 4, 0, 3, 3, 2, 4, 3, 0, 2, 2, 0, 3, 3,
                3, 0, 4, 3, 2, 0, 6, 5, 4, 2, 4, 0, 2, 0, 2, 5);
    }

    private static void decodedIsNoneWhereThereIsNone() {
        for (int n : LENGTHS) {
            DUE.in("promise 11: NONE if there is none, on " + n + " letters");
            int[] want = Texts.filled(n, 1);
            if (n >= 1) {
                want[0] = 0;
            }
            DUE.list("decoded", zeroAndOnes(n)::decoded, want);
            DUE.list("decoded after a full text", afterAFullText(n)::decoded, want);
        }
    }

    // ---- Terms: "the list of the text's letters from place p to the end and then from place 0" ----

    private static void rotationsGoOnFromPlace0() {
        DUE.in("promise 5: rotations go on from place 0");
        // 0 0 1 (p 1) before 0 1 0 (p 2): what only goes to the end would sort p 2 first.
        DUE.list("column of 100", Answers.typed(1, 0, 0)::column, 1, 0, 0);
        // 0 1 2 (p 1), 1 2 0 (p 2), 2 0 1 (p 0).
        DUE.list("column of 201", Answers.typed(2, 0, 1)::column, 2, 0, 1);
        // Rotation 0 goes to the end and no further: its last letter is the text's.
        for (int n : new int[] {1, 2, 3, 31, 32}) {
            for (int last = 0; last <= 5; last++) {
                int[] letters = Answers.mixedLetters(n);
                letters[n - 1] = last;
                BlockCoder x = Answers.typed(letters);
                DUE.answer("column(mark()) of " + Arrays.toString(letters), x.column(x.mark()), last);
            }
        }
    }

    // ---- Terms: "the smaller letter at the first place where two differ first" ----

    private static void rotationsSortByTheFirstDifference() {
        DUE.in("promise 5: the first place where two differ");
        // 004555 (p 1), 045550 (p 2), 455500 (p 3), 500455 (p 0), 550045 (p 5), 555004 (p 4):
        // 4 goes before 5 although all that follows is greater.
        BlockCoder x = Answers.typed(5, 0, 0, 4, 5, 5);
        DUE.list("column of 500455", x::column, 5, 0, 0, 5, 5, 4);
        DUE.answer("mark() of 500455", x.mark(), 3);
    }

    private static void rotationsSortByALateDifference() {
        DUE.in("promise 5: a late place where two differ");
        // 0 .. 0 1 0: rotation n - 1 is 0 .. 0 0 1 and the smaller one, but the first difference
        // from rotation 0 is at place n - 2, the latest there can be.
        for (int n : new int[] {3, 31, 32}) {
            int[] letters = Texts.filled(n, 0);
            letters[n - 2] = 1;
            BlockCoder x = Answers.typed(letters);
            DUE.answer("mark() of " + n + " letters", x.mark(), 1);
            int[] want = Texts.filled(n, 0);
            want[0] = 1;
            DUE.list("column of " + n + " letters", x::column, want);
        }
    }

    // ---- Terms: "equal ones by p, the smaller first" ----

    private static void equalRotationsSortByTheSmallerFirst() {
        DUE.in("promise 6: equal rotations by p");
        for (int n : new int[] {2, 4, 31, 32}) {
            DUE.answer("mark() of " + n + " letters 2", Answers.typed(Texts.filled(n, 2)).mark(), 0);
        }
        // Half of the rotations begin with 0; of those that begin with 1, rotation 0 is first.
        for (int n : new int[] {4, 6, 30, 32}) {
            DUE.answer("mark() of 1 0 1 0 .. " + n, Answers.typed(Texts.alternating(n, 1, 0)).mark(), n / 2);
            DUE.answer("mark() of 0 1 0 1 .. " + n, Answers.typed(Texts.alternating(n, 0, 1)).mark(), 0);
        }
        // Nearly equal: with one other letter the letters decide and not p.
        DUE.answer("mark() of 2221", Answers.typed(2, 2, 2, 1).mark(), 3);
        DUE.answer("mark() of 2223", Answers.typed(2, 2, 2, 3).mark(), 0);
        DUE.answer("mark() of 2122", Answers.typed(2, 1, 2, 2).mark(), 1);
        // 00101 (p 4) and 01001 (p 2) sort before 01010; 10100 is the last of its rotations.
        DUE.answer("mark() of 01010", Answers.typed(0, 1, 0, 1, 0).mark(), 2);
        DUE.answer("mark() of 10100", Answers.typed(1, 0, 1, 0, 0).mark(), 4);
    }

    // ---- Promise 6: "NONE for an empty text." ----

    private static void markIsNoneForAnEmptyText() {
        DUE.in("promise 6: NONE for an empty text");
        BlockCoder x = new BlockCoder();
        DUE.answer("mark() at first", x.mark(), NONE);
        x.type(6);
        x.repeat(1);
        DUE.answer("mark() after refused calls", x.mark(), NONE);
        x.type(5);
        DUE.answer("mark() of one letter", x.mark(), 0);
        x.clear();
        DUE.answer("mark() after clear()", x.mark(), NONE);
        x = Answers.mixed(32);
        x.clear();
        DUE.answer("mark() after clear() of 32", x.mark(), NONE);
    }

    // ---- Terms: "the MARK is the number, in the sorted order from 0, of rotation 0" ----

    private static void markIsANumberFrom0() {
        DUE.in("promise 6: the number from 0");
        for (int letter = 0; letter <= 5; letter++) {
            DUE.answer("mark() of " + letter, Answers.typed(letter).mark(), 0);
        }
        for (int n : new int[] {2, 3, 31, 32}) {
            int[] letters = Texts.filled(n, 0);
            letters[0] = 1;
            DUE.answer("mark() of 1 0 .. 0, " + n + " letters", Answers.typed(letters).mark(), n - 1);
            DUE.answer("mark() of 0 1 .. 1, " + n + " letters", zeroAndOnes(n).mark(), 0);
            letters = Texts.filled(n, 5);
            letters[n - 1] = 0;
            DUE.answer("mark() of 5 .. 5 0, " + n + " letters", Answers.typed(letters).mark(), n - 1);
        }
    }

    // ---- Terms: "a row of the letters 0 to 5, at first in ascending order" ----

    private static void rowIsAscendingAtFirst() {
        DUE.in("promise 7: the row is ascending at first");
        // On one object: the row must be made anew for every text.
        BlockCoder x = new BlockCoder();
        for (int letter : new int[] {5, 0, 1, 2, 3, 4, 5}) {
            x.type(letter);
            DUE.answer("rank(0) of " + letter, x.rank(0), letter);
            x.clear();
        }
    }

    // ---- Terms: "its rank is the number of letters before it in the row (0 to 5)" ----

    private static void ranksAreFrom0To5() {
        DUE.in("promise 7: 0 to 5");
        DUE.list("rank of 0", Answers.typed(0)::rank, 0);
        DUE.list("rank of 00", Answers.typed(0, 0)::rank, 0, 0);
        DUE.list("rank of 1", Answers.typed(1)::rank, 1);
        DUE.list("rank of 4", Answers.typed(4)::rank, 4);
        DUE.list("rank of 5", Answers.typed(5)::rank, 5);
        // The column is 5 0 1 2 3 4.
        DUE.list("rank of 012345", Answers.typed(0, 1, 2, 3, 4, 5)::rank, 5, 1, 2, 3, 4, 5);
        // The column is 1 2 3 4 5 0.
        DUE.list("rank of 543210", Answers.typed(5, 4, 3, 2, 1, 0)::rank, 1, 2, 3, 4, 5, 5);
    }

    // ---- Terms: "and then it is moved to the front of the row" ----

    private static void letterMovesToTheFront() {
        DUE.in("promise 7: moved to the front");
        // From the front to the front, from the second place, and from the last place.
        DUE.list("rank of 000", Answers.typed(0, 0, 0)::rank, 0, 0, 0);
        DUE.list("rank of 111", Answers.typed(1, 1, 1)::rank, 1, 0, 0);
        DUE.list("rank of 555", Answers.typed(5, 5, 5)::rank, 5, 0, 0);
        // The column is 5 0: the letter 0 was first and now has only 5 before it.
        DUE.list("rank of 50", Answers.typed(5, 0)::rank, 5, 1);
        // Sorted: 1145, 1451, 4511, 5114; the column is 5 1 1 4.
        DUE.list("rank of 1145", Answers.typed(1, 1, 4, 5)::rank, 5, 2, 0, 5);
    }

    // ---- Promise 8: "The number of symbols." ----

    private static void symbolsOfNothingAndAtMost() {
        DUE.in("promise 8: from 0 to 32");
        BlockCoder x = new BlockCoder();
        DUE.answer("symbols() of nothing", x.symbols(), 0);
        x.type(0);
        DUE.answer("symbols() of 0", x.symbols(), 1);
        x.clear();
        DUE.answer("symbols() after clear()", x.symbols(), 0);
        DUE.answer("symbols(), the most", Answers.typed(Texts.WITH_32_SYMBOLS).symbols(), 32);
        // A run takes one symbol more beyond 2, 6, 14 and 30 ranks.
        int[][] runs = {{1, 1}, {2, 1}, {3, 2}, {6, 2}, {7, 3}, {14, 3}, {15, 4}, {30, 4}, {31, 5}, {32, 5}};
        for (int[] pair : runs) {
            BlockCoder zeros = Answers.typed(Texts.filled(pair[0], 0));
            DUE.answer("symbols() of " + pair[0] + " letters 0", zeros.symbols(), pair[1]);
        }
    }

    // ---- Terms: "every rank r above 0 becomes the symbol r + 1" ----

    private static void rankAbove0BecomesOneMore() {
        DUE.in("promise 9: r + 1 above 0");
        DUE.symbols("0", Answers.typed(0), 0);
        DUE.symbols("1", Answers.typed(1), 2);
        DUE.symbols("2", Answers.typed(2), 3);
        DUE.symbols("3", Answers.typed(3), 4);
        DUE.symbols("4", Answers.typed(4), 5);
        DUE.symbols("5", Answers.typed(5), 6);
        DUE.symbols("012345", Answers.typed(0, 1, 2, 3, 4, 5), 6, 2, 3, 4, 5, 6);
    }

    // ---- Terms: "as long as m is above 0, if m is odd .. 0 .. else .. 1" ----

    private static void runsOfEveryLength() {
        DUE.in("promise 9: runs of every length");
        for (int m = 1; m <= 32; m++) {
            DUE.symbols(m + " letters 0", Answers.typed(Texts.filled(m, 0)), RUNS[m - 1]);
        }
        for (int m = 1; m <= 31; m++) {
            // The first rank is 5, the others are 0.
            int[] want = new int[1 + RUNS[m - 1].length];
            want[0] = 6;
            System.arraycopy(RUNS[m - 1], 0, want, 1, RUNS[m - 1].length);
            DUE.symbols((m + 1) + " letters 5", Answers.typed(Texts.filled(m + 1, 5)), want);
        }
    }

    // ---- Terms: "every largest run of m ranks 0" ----

    private static void runsAreTheLargest() {
        DUE.in("promise 9: the largest runs");
        // No run: the ranks are 1 1.
        DUE.symbols("01", Answers.typed(0, 1), 2, 2);
        // Two runs of 1 with a rank between, not one of 2: the ranks are 1 0 1 0.
        DUE.symbols("0101", Answers.typed(0, 1, 0, 1), 2, 0, 2, 0);
        // Two runs of 2, not four of 1: the ranks are 1 0 0 1 0 0.
        DUE.symbols("010101", Answers.typed(0, 1, 0, 1, 0, 1), 2, 1, 2, 1);
        // Two runs of 3: the ranks are 1 0 0 0 1 0 0 0.
        DUE.symbols("01010101", Answers.typed(0, 1, 0, 1, 0, 1, 0, 1), 2, 0, 0, 2, 0, 0);
        // Two runs of 15: 32 letters, with ranks 1 and 15 times 0, twice.
        DUE.symbols("0 1, 16 times", Answers.typed(Texts.alternating(32, 0, 1)), 2, 0, 0, 0, 0, 2, 0, 0, 0, 0);
        // A run in the middle, of 1 and of 2: the ranks are 1 0 1 and 1 0 0 1.
        DUE.symbols("011", Answers.typed(0, 1, 1), 2, 0, 2);
        DUE.symbols("0111", Answers.typed(0, 1, 1, 1), 2, 1, 2);
    }

    // ---- Terms: "(0 for no symbols)" ----

    private static void costOfNoSymbols() {
        DUE.in("promise 10: 0 for no symbols");
        BlockCoder x = new BlockCoder();
        DUE.answer("cost() at first", x.cost(), 0);
        x.type(3);
        DUE.answer("cost() of 3", x.cost(), 1);
        x.clear();
        DUE.answer("cost() after clear()", x.cost(), 0);
        x = Answers.mixed(32);
        x.clear();
        DUE.answer("cost() after clear() of 32", x.cost(), 0);
    }

    // ---- Terms: "every symbol that occurs a list of one or more bits" ----

    private static void costIsABitAtLeast() {
        DUE.in("promise 10: one or more bits");
        for (int letter = 0; letter <= 5; letter++) {
            DUE.answer("cost() of " + letter, Answers.typed(letter).cost(), 1);
        }
        // One symbol that occurs again and again: 0 0, 1 1, 0 0 0 0 0, 1 1 1 1.
        DUE.answer("cost() of 3 letters 0", Answers.typed(Texts.filled(3, 0)).cost(), 2);
        DUE.answer("cost() of 6 letters 0", Answers.typed(Texts.filled(6, 0)).cost(), 2);
        DUE.answer("cost() of 30 letters 0", Answers.typed(Texts.filled(30, 0)).cost(), 4);
        DUE.answer("cost() of 31 letters 0", Answers.typed(Texts.filled(31, 0)).cost(), 5);
        // Two symbols, 1 0 0 0 0 and 6 0: still a bit each.
        DUE.answer("cost() of 32 letters 0", Answers.typed(Texts.filled(32, 0)).cost(), 5);
        DUE.answer("cost() of 55", Answers.typed(5, 5).cost(), 2);
        // Three symbols, 5 2 0: one of them with a bit, two with two.
        DUE.answer("cost() of 040", Answers.typed(0, 4, 0).cost(), 5);
    }

    // ---- Terms: "The LEAST cost is the smallest cost of a code" ----

    private static void costIsTheLeast() {
        DUE.in("promise 10: the smallest cost");
        // Four symbols of which three come once: with two bits each the cost is 2 w + 6, with
        // one, two, three and three bits it is w + 8.
        DUE.answer("cost() with w = 1, symbols 5 2 3 0", Answers.typed(0, 1, 1, 4).cost(), 8);
        DUE.answer("cost() with w = 2, symbols 3 0 5 4 0", Answers.typed(2, 1, 4, 2, 1).cost(), 10);
        DUE.answer("cost() with w = 3, symbols 3 5 0 4 4 4", Answers.typed(0, 4, 1, 2, 4, 2).cost(), 11);
        DUE.answer("cost() with w = 4, symbols 2 2 4 2 3 2 0", Answers.typed(1, 1, 0, 0, 0, 3, 0).cost(), 12);
    }

    private static void costWithTheLongestLists() {
        DUE.in("promise 10: up to six bits");
        // Six and seven symbols, each once: 2 * 2 + 4 * 3 and 1 * 2 + 6 * 3.
        DUE.answer("cost() of six symbols", Answers.typed(4, 4, 4, 2, 2, 5).cost(), 16);
        DUE.answer("cost() of seven symbols", Answers.typed(0, 0, 0, 0, 4, 0, 5, 3).cost(), 20);
        // 12 * 1 + 7 * 2 + 4 * 3 + 3 * 4 + 1 * 5 + 1 * 6 + 1 * 6.
        DUE.answer("cost() with a list of six bits", Answers.typed(Texts.WITH_DEEPEST_CODE).cost(), 67);
        // 9 * 2 + 7 * 2 + 7 * 2 + 6 * 3 + 2 * 4 + 1 * 4.
        DUE.answer("cost() of 32 symbols", Answers.typed(Texts.WITH_32_SYMBOLS).cost(), 76);
    }

    private static void costIsNeverAbove88() {
        DUE.in("promise 10: the dearest texts");
        int[] times = {5, 1, 5, 5, 5, 5, 5};
        for (int[] text : Texts.DEAREST) {
            BlockCoder x = Answers.typed(text);
            // 1 * 3 + 5 * 2 + 5 * 5 * 3; at Texts.DEAREST stands why there can be no more.
            DUE.answer("cost() of " + Arrays.toString(text), x.cost(), 88);
            DUE.answer("symbols()", x.symbols(), 31);
            DUE.answer("different()", x.different(), 7);
            int[] got = new int[7];
            for (int i = 0; i < 31; i++) {
                int kind = x.symbol(i);
                if (kind >= 0 && kind <= 6) {
                    got[kind]++;
                }
            }
            DUE.that("symbols come " + Arrays.toString(got) + " times", Arrays.equals(got, times));
        }
    }

    // ---- Promise 11: "decoded from the bits and the mark" ----

    private static void decodedTakesTheMark() {
        DUE.in("promise 11: the mark");
        // These differ in the mark alone.
        DUE.list("decoded of 01", Answers.typed(0, 1)::decoded, 0, 1);
        DUE.list("decoded of 10", Answers.typed(1, 0)::decoded, 1, 0);
        for (int n : new int[] {6, 31, 32}) {
            int[] letters = Answers.mixedLetters(n);
            for (int p = 0; p < n; p++) {
                int[] rotation = new int[n];
                for (int k = 0; k < n; k++) {
                    rotation[k] = letters[(p + k) % n];
                }
                DUE.list("decoded of rotation " + p, Answers.typed(rotation)::decoded, rotation);
            }
        }
    }

    // ---- Promise 11: "coded with some code of the least cost, to bits" ----

    private static void decodedWithEveryShapeOfCode() {
        DUE.in("promise 11: every shape of code");
        int[][] texts = {
            Texts.filled(1, 0), Texts.filled(1, 5), Texts.filled(31, 0), Texts.filled(32, 0),
            Texts.filled(31, 5), Texts.filled(32, 5), Texts.alternating(2, 1, 0),
            Texts.alternating(31, 1, 0), Texts.alternating(32, 1, 0), Texts.alternating(32, 0, 5),
            {0, 4, 0}, {0, 1, 1, 4}, {0, 4, 1, 2, 4, 2}, {4, 4, 4, 2, 2, 5}, {0, 0, 0, 0, 4, 0, 5, 3},
            Texts.WITH_DEEPEST_CODE, Texts.WITH_32_SYMBOLS
        };
        for (int[] text : texts) {
            DUE.list("decoded of " + Arrays.toString(text), Answers.typed(text)::decoded, text);
        }
        for (int[] text : Texts.DEAREST) {
            DUE.list("decoded of " + Arrays.toString(text), Answers.typed(text)::decoded, text);
        }
    }

    // ---- Promise 12: "The number of different symbols that occur." ----

    private static void differentFromNoneToAll() {
        DUE.in("promise 12: from 0 to 7");
        BlockCoder x = new BlockCoder();
        DUE.answer("different() of nothing", x.different(), 0);
        x.type(0);
        DUE.answer("different() of 0", x.different(), 1);
        x.clear();
        DUE.answer("different() after clear()", x.different(), 0);
        // The symbols 0 0 0 0 0 and 1 0 0 0 0: 0 and 1 are two.
        DUE.answer("different() of 31 letters 0", Answers.typed(Texts.filled(31, 0)).different(), 1);
        DUE.answer("different() of 32 letters 0", Answers.typed(Texts.filled(32, 0)).different(), 2);
        // The symbols 5 4 2 0 6 3 and 4 2 1 5 6 3 0.
        DUE.answer("different() of 444225", Answers.typed(4, 4, 4, 2, 2, 5).different(), 6);
        DUE.answer("different() of 00004053", Answers.typed(0, 0, 0, 0, 4, 0, 5, 3).different(), 7);
        DUE.answer("different() of seven symbols often", Answers.typed(Texts.WITH_DEEPEST_CODE).different(), 7);
    }

    private static BlockCoder zeroAndOnes(int n) {
        return typeZeroAndOnes(new BlockCoder(), n);
    }

    /** What the full text left behind must not be seen again. */
    private static BlockCoder afterAFullText(int n) {
        BlockCoder x = Answers.mixed(32);
        x.clear();
        return typeZeroAndOnes(x, n);
    }

    private static BlockCoder typeZeroAndOnes(BlockCoder x, int n) {
        for (int k = 0; k < n; k++) {
            x.type(k == 0 ? 0 : 1);
        }
        return x;
    }

    private static int[] joined(int[] list, int last) {
        int[] longer = Arrays.copyOf(list, list.length + 1);
        longer[list.length] = last;
        return longer;
    }
}
