import java.util.Arrays;
import java.util.List;

/**
 * Each promise by its number, with answers worked out by hand from the document. No object is
 * asked more than 512 times where the answer counts: later answers are free.
 */
public final class PromiseTest {
    private static final int BAD = -1;
    private static final int FULL = -2;
    private static final int NONE = -3;
    private static final Due DUE = new Due();

    public static void main(String[] args) {
        promise1NewObject();
        promise2Type();
        promise3Repeat();
        promise4Clear();
        promise5Column();
        promise6Mark();
        promise7Rank();
        promise8And9Symbols();
        promise10Cost();
        promise11Decoded();
        promise12Different();
        promise13Questions();
        objectsAreApart();
        DUE.finish();
    }

    private static void promise1NewObject() {
        DUE.in("promise 1");
        BlockCoder x = new BlockCoder();
        DUE.empty(x);
        DUE.answer("clear()", x.clear(), 0);
        DUE.answer("first type(4)", new BlockCoder().type(4), 1);
    }

    private static void promise2Type() {
        DUE.in("promise 2");
        BlockCoder x = new BlockCoder();
        for (int wrong : new int[] {Integer.MIN_VALUE, -1, 6, 7, Integer.MAX_VALUE}) {
            DUE.answer("type(" + wrong + ")", x.type(wrong), BAD);
        }
        for (int n = 1; n <= 32; n++) {
            DUE.answer("type number " + n, x.type(n % 6), n);
        }
        DUE.list("decoded", x::decoded, 1, 2, 3, 4, 5, 0, 1, 2, 3, 4, 5, 0, 1, 2, 3, 4,
                5, 0, 1, 2, 3, 4, 5, 0, 1, 2, 3, 4, 5, 0, 1, 2);
        DUE.answer("type(0) in a full text", x.type(0), FULL);
        DUE.answer("type(6) in a full text", x.type(6), FULL);
        DUE.answer("type(-1) in a full text", x.type(-1), FULL);
    }

    private static void promise3Repeat() {
        DUE.in("promise 3");
        BlockCoder x = new BlockCoder();
        DUE.answer("repeat(1) of nothing", x.repeat(1), BAD);
        DUE.answer("repeat(0) of nothing", x.repeat(0), BAD);
        x = Answers.typed(4, 1, 3);
        DUE.answer("repeat(0)", x.repeat(0), BAD);
        DUE.answer("repeat(-1)", x.repeat(-1), BAD);
        DUE.answer("repeat(least)", x.repeat(Integer.MIN_VALUE), BAD);
        DUE.answer("repeat(4) of 3", x.repeat(4), BAD);
        DUE.answer("repeat(33) of 3", x.repeat(33), BAD);
        DUE.answer("repeat(greatest)", x.repeat(Integer.MAX_VALUE), BAD);
        DUE.answer("repeat(2)", x.repeat(2), 5);
        DUE.list("decoded", x::decoded, 4, 1, 3, 1, 3);
        DUE.answer("repeat(1)", x.repeat(1), 6);
        DUE.answer("repeat(6), the whole text", x.repeat(6), 12);
        DUE.list("decoded", x::decoded, 4, 1, 3, 1, 3, 3, 4, 1, 3, 1, 3, 3);
        DUE.answer("repeat(12)", x.repeat(12), 24);
        DUE.answer("repeat(25) of 24", x.repeat(25), BAD);
        DUE.answer("repeat(24) of 24", x.repeat(24), FULL);
        DUE.answer("repeat(9) of 24", x.repeat(9), FULL);
        DUE.answer("repeat(8) of 24", x.repeat(8), 32);
        DUE.answer("repeat(1) of 32", x.repeat(1), FULL);
        DUE.answer("repeat(32) of 32", x.repeat(32), FULL);
        DUE.answer("repeat(33) of 32", x.repeat(33), BAD);
        DUE.answer("repeat(0) of 32", x.repeat(0), BAD);
        DUE.answer("repeat(greatest) of 32", x.repeat(Integer.MAX_VALUE), BAD);
    }

    private static void promise4Clear() {
        DUE.in("promise 4");
        BlockCoder x = Answers.typed(5, 5, 2);
        DUE.answer("clear() of 3", x.clear(), 3);
        DUE.empty(x);
        DUE.answer("clear() of nothing", x.clear(), 0);
        DUE.answer("repeat(1) after clear()", x.repeat(1), BAD);
        for (int n = 1; n <= 32; n++) {
            DUE.answer("type after clear()", x.type(n % 5), n);
        }
        DUE.answer("clear() of 32", x.clear(), 32);
        DUE.answer("type(2) after clear()", x.type(2), 1);
        DUE.list("column", x::column, 2);
        DUE.list("rank", x::rank, 2);
        DUE.list("symbol", x::symbol, 3);
        DUE.list("decoded", x::decoded, 2);
    }

    private static void promise5Column() {
        DUE.in("promise 5");
        DUE.list("column of nothing", new BlockCoder()::column);
        DUE.list("column of 3", Answers.typed(3)::column, 3);
        // Sorted: 0 5 (p 1), 5 0 (p 0).
        DUE.list("column of 5 0", Answers.typed(5, 0)::column, 5, 0);
        // Sorted: 010202, 020102, 020201, 102020, 201020, 202010.
        DUE.list("column of 102020", Answers.typed(1, 0, 2, 0, 2, 0)::column, 2, 2, 1, 0, 0, 0);
        // Sorted: 0 1 0 1 (p 1, 3), 1 0 1 0 (p 0, 2): each twice.
        DUE.list("column of 1010", Answers.typed(1, 0, 1, 0)::column, 1, 1, 0, 0);
        // The rotations are whole circles: 0 0 1 (p 1), 0 1 0 (p 2), 1 0 0 (p 0).
        DUE.list("column of 100", Answers.typed(1, 0, 0)::column, 1, 0, 0);
    }

    private static void promise6Mark() {
        DUE.in("promise 6");
        DUE.answer("mark() of nothing", new BlockCoder().mark(), NONE);
        DUE.answer("mark() of 3", Answers.typed(3).mark(), 0);
        DUE.answer("mark() of 5 0", Answers.typed(5, 0).mark(), 1);
        DUE.answer("mark() of 102020", Answers.typed(1, 0, 2, 0, 2, 0).mark(), 3);
        // Rotation 0 stands before those that equal it.
        DUE.answer("mark() of 2222", Answers.typed(2, 2, 2, 2).mark(), 0);
        DUE.answer("mark() of 1010", Answers.typed(1, 0, 1, 0).mark(), 2);
        DUE.answer("mark() of 100", Answers.typed(1, 0, 0).mark(), 2);
        BlockCoder x = Answers.typed(1);
        for (int n = 2; n <= 32; n++) {
            x.type(0);
        }
        DUE.answer("mark() of 1 and 31 letters 0", x.mark(), 31);
    }

    private static void promise7Rank() {
        DUE.in("promise 7");
        DUE.list("rank of nothing", new BlockCoder()::rank);
        DUE.list("rank of 0", Answers.typed(0)::rank, 0);
        DUE.list("rank of 5", Answers.typed(5)::rank, 5);
        DUE.list("rank of 55", Answers.typed(5, 5)::rank, 5, 0);
        // The column is 2 2 1 0 0 0.
        DUE.list("rank of 102020", Answers.typed(1, 0, 2, 0, 2, 0)::rank, 2, 0, 2, 2, 0, 0);
        // The column is 5 0 1 2 3 4: each letter goes behind all that came.
        DUE.list("rank of 012345", Answers.typed(0, 1, 2, 3, 4, 5)::rank, 5, 1, 2, 3, 4, 5);
    }

    private static void promise8And9Symbols() {
        DUE.in("promises 8 and 9");
        DUE.symbols("nothing", new BlockCoder());
        DUE.symbols("5", Answers.typed(5), 6);
        DUE.symbols("102020", Answers.typed(1, 0, 2, 0, 2, 0), 3, 0, 3, 3, 1);
        DUE.symbols("012345", Answers.typed(0, 1, 2, 3, 4, 5), 6, 2, 3, 4, 5, 6);
        // n letters 0 have n ranks 0: one run.
        int[][] runs = {{0}, {1}, {0, 0}, {1, 0}, {0, 1}, {1, 1}, {0, 0, 0}, {1, 0, 0}, {0, 1, 0}};
        for (int n = 1; n <= runs.length; n++) {
            DUE.symbols(n + " letters 0", Answers.typed(new int[n]), runs[n - 1]);
        }
        DUE.symbols("30 letters 0", Answers.typed(new int[30]), 1, 1, 1, 1);
        DUE.symbols("31 letters 0", Answers.typed(new int[31]), 0, 0, 0, 0, 0);
        DUE.symbols("32 letters 0", Answers.typed(new int[32]), 1, 0, 0, 0, 0);
        // Runs at the end, in the middle and between: the ranks are
        // 1 1 0 0 0, then 2 1 0 0 2, then 1 0 1 0, then 1 1 0 1 1.
        DUE.symbols("10000", Answers.typed(1, 0, 0, 0, 0), 2, 2, 0, 0);
        DUE.symbols("20001", Answers.typed(2, 0, 0, 0, 1), 3, 2, 1, 3);
        DUE.symbols("0101", Answers.typed(0, 1, 0, 1), 2, 0, 2, 0);
        DUE.symbols("00011", Answers.typed(0, 0, 0, 1, 1), 2, 2, 0, 2, 2);
    }

    private static void promise10Cost() {
        DUE.in("promise 10");
        DUE.answer("cost() of nothing", new BlockCoder().cost(), 0);
        // One symbol that occurs still takes a bit each time.
        DUE.answer("cost() of 5", Answers.typed(5).cost(), 1);
        DUE.answer("cost() of 0", Answers.typed(0).cost(), 1);
        DUE.answer("cost() of 000", Answers.typed(0, 0, 0).cost(), 2);
        DUE.answer("cost() of 0000", Answers.typed(0, 0, 0, 0).cost(), 2);
        // Symbols 3 0 3 3 1: 3 with one bit, 0 and 1 with two.
        DUE.answer("cost() of 102020", Answers.typed(1, 0, 2, 0, 2, 0).cost(), 7);
        // Symbols 6 2 3 4 5 6: two bits for 6 and for two of the others, three for the rest is
        // 4 + 4 + 6; three bits for all four others and one for 6 is 2 + 12, no less.
        DUE.answer("cost() of 012345", Answers.typed(0, 1, 2, 3, 4, 5).cost(), 14);
        // Symbols 2 2 0 2 2: two kinds, a bit each.
        DUE.answer("cost() of 00011", Answers.typed(0, 0, 0, 1, 1).cost(), 5);
        // Symbols 3 2 1 3: one bit for 3, two for the others.
        DUE.answer("cost() of 20001", Answers.typed(2, 0, 0, 0, 1).cost(), 6);
    }

    private static void promise11Decoded() {
        DUE.in("promise 11");
        DUE.list("decoded of nothing", new BlockCoder()::decoded);
        int[][] texts = {
            {5}, {0}, {0, 0}, {5, 0}, {1, 0, 2, 0, 2, 0}, {1, 0, 1, 0, 1, 0}, {2, 1, 1, 2, 1, 1},
            {0, 1, 2, 3, 4, 5}, {5, 4, 3, 2, 1, 0}, {3, 3, 3, 3, 3, 3, 3},
            {5, 5, 0, 0, 1, 5, 4, 4, 2, 0, 3, 3, 1, 0, 5, 2, 2, 4, 0, 0, 0, 5, 1, 3, 3, 3, 4, 2, 1, 0, 5, 5}
        };
        for (int[] text : texts) {
            DUE.list("decoded of " + Arrays.toString(text), Answers.typed(text)::decoded, text);
        }
    }

    private static void promise12Different() {
        DUE.in("promise 12");
        DUE.answer("different() of nothing", new BlockCoder().different(), 0);
        DUE.answer("different() of 5", Answers.typed(5).different(), 1);
        DUE.answer("different() of 000", Answers.typed(0, 0, 0).different(), 1);
        DUE.answer("different() of 0000", Answers.typed(0, 0, 0, 0).different(), 2);
        DUE.answer("different() of 102020", Answers.typed(1, 0, 2, 0, 2, 0).different(), 3);
        DUE.answer("different() of 012345", Answers.typed(0, 1, 2, 3, 4, 5).different(), 5);
    }

    private static void promise13Questions() {
        DUE.in("promise 13, questions");
        BlockCoder asked = Answers.typed(2, 0, 1);
        Answers.of(asked, 3);
        asked.type(5);
        Answers.of(asked, 4);
        asked.repeat(3);
        DUE.that("a text that was asked about in between is the same",
                Answers.of(asked, 7).equals(Answers.of(Answers.typed(2, 0, 1, 5, 0, 1, 5), 7)));
    }

    private static void objectsAreApart() {
        DUE.in("two objects");
        BlockCoder one = Answers.typed(1, 0, 2);
        List<Integer> before = Answers.of(one, 3);
        Answers.typed(5, 5, 4, 3).clear();
        Answers.typed(4, 4, 0, 1, 3);
        DUE.that("one object is untouched by others", before.equals(Answers.of(one, 3)));
    }
}
