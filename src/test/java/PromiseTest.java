import java.util.Arrays;
import java.util.List;
import java.util.function.IntUnaryOperator;
import java.util.function.ToIntBiFunction;

/**
 * Each promise by its number, with answers worked out by hand from the document. No object is
 * asked more than 512 times where the answer counts: later answers are free.
 */
public final class PromiseTest {
    private static final int BAD = -1;
    private static final int FULL = -2;
    private static final int NONE = -3;
    private static final int[] NO_PLACES = {Integer.MIN_VALUE, -33, -1, Integer.MAX_VALUE};
    private static final Due DUE = new Due();

    public static void main(String[] args) {
        promise1NewObject();
        promise2Type();
        promise3Repeat();
        promise4Clear();
        promise5Column();
        promise6Mark();
        promise7Rank();
        promise8And9Symbols();
        promise10Cost();
        promise11Decoded();
        promise12Different();
        promise13RefusedCalls();
        promise13Questions();
        objectsAreApart();
        callsBeyondTheLastDoNotThrow();
        DUE.finish();
    }

    private static void promise1NewObject() {
        DUE.in("promise 1");
        BlockCoder x = new BlockCoder();
        dueEmpty(x);
        DUE.answer("clear()", x.clear(), 0);
        DUE.answer("first type(4)", new BlockCoder().type(4), 1);
    }

    private static void promise2Type() {
        DUE.in("promise 2");
        BlockCoder x = new BlockCoder();
        for (int wrong : new int[] {Integer.MIN_VALUE, -1, 6, 7, Integer.MAX_VALUE}) {
            DUE.answer("type(" + wrong + ")", x.type(wrong), BAD);
        }
        for (int n = 1; n <= 32; n++) {
            DUE.answer("type number " + n, x.type(n % 6), n);
        }
        dueList("decoded", x::decoded, 1, 2, 3, 4, 5, 0, 1, 2, 3, 4, 5, 0, 1, 2, 3, 4,
                5, 0, 1, 2, 3, 4, 5, 0, 1, 2, 3, 4, 5, 0, 1, 2);
        DUE.answer("type(0) in a full text", x.type(0), FULL);
        DUE.answer("type(6) in a full text", x.type(6), FULL);
        DUE.answer("type(-1) in a full text", x.type(-1), FULL);
    }

    private static void promise3Repeat() {
        DUE.in("promise 3");
        BlockCoder x = new BlockCoder();
        DUE.answer("repeat(1) of nothing", x.repeat(1), BAD);
        DUE.answer("repeat(0) of nothing", x.repeat(0), BAD);
        x = Answers.typed(4, 1, 3);
        DUE.answer("repeat(0)", x.repeat(0), BAD);
        DUE.answer("repeat(-1)", x.repeat(-1), BAD);
        DUE.answer("repeat(least)", x.repeat(Integer.MIN_VALUE), BAD);
        DUE.answer("repeat(4) of 3", x.repeat(4), BAD);
        DUE.answer("repeat(33) of 3", x.repeat(33), BAD);
        DUE.answer("repeat(greatest)", x.repeat(Integer.MAX_VALUE), BAD);
        DUE.answer("repeat(2)", x.repeat(2), 5);
        dueList("decoded", x::decoded, 4, 1, 3, 1, 3);
        DUE.answer("repeat(1)", x.repeat(1), 6);
        DUE.answer("repeat(6), the whole text", x.repeat(6), 12);
        dueList("decoded", x::decoded, 4, 1, 3, 1, 3, 3, 4, 1, 3, 1, 3, 3);
        DUE.answer("repeat(12)", x.repeat(12), 24);
        DUE.answer("repeat(25) of 24", x.repeat(25), BAD);
        DUE.answer("repeat(24) of 24", x.repeat(24), FULL);
        DUE.answer("repeat(9) of 24", x.repeat(9), FULL);
        DUE.answer("repeat(8) of 24", x.repeat(8), 32);
        DUE.answer("repeat(1) of 32", x.repeat(1), FULL);
        DUE.answer("repeat(32) of 32", x.repeat(32), FULL);
        DUE.answer("repeat(33) of 32", x.repeat(33), BAD);
        DUE.answer("repeat(0) of 32", x.repeat(0), BAD);
        DUE.answer("repeat(greatest) of 32", x.repeat(Integer.MAX_VALUE), BAD);
    }

    private static void promise4Clear() {
        DUE.in("promise 4");
        BlockCoder x = Answers.typed(5, 5, 2);
        DUE.answer("clear() of 3", x.clear(), 3);
        dueEmpty(x);
        DUE.answer("clear() of nothing", x.clear(), 0);
        DUE.answer("repeat(1) after clear()", x.repeat(1), BAD);
        for (int n = 1; n <= 32; n++) {
            DUE.answer("type after clear()", x.type(n % 5), n);
        }
        DUE.answer("clear() of 32", x.clear(), 32);
        DUE.answer("type(2) after clear()", x.type(2), 1);
        dueList("column", x::column, 2);
        dueList("rank", x::rank, 2);
        dueList("symbol", x::symbol, 3);
        dueList("decoded", x::decoded, 2);
    }

    private static void promise5Column() {
        DUE.in("promise 5");
        dueList("column of nothing", new BlockCoder()::column);
        dueList("column of 3", Answers.typed(3)::column, 3);
        // Sorted: 0 5 (p 1), 5 0 (p 0).
        dueList("column of 5 0", Answers.typed(5, 0)::column, 5, 0);
        // Sorted: 010202, 020102, 020201, 102020, 201020, 202010.
        dueList("column of 102020", Answers.typed(1, 0, 2, 0, 2, 0)::column, 2, 2, 1, 0, 0, 0);
        // Sorted: 0 1 0 1 (p 1, 3), 1 0 1 0 (p 0, 2): each twice.
        dueList("column of 1010", Answers.typed(1, 0, 1, 0)::column, 1, 1, 0, 0);
        // The rotations are whole circles: 0 0 1 (p 1), 0 1 0 (p 2), 1 0 0 (p 0).
        dueList("column of 100", Answers.typed(1, 0, 0)::column, 1, 0, 0);
    }

    private static void promise6Mark() {
        DUE.in("promise 6");
        DUE.answer("mark() of nothing", new BlockCoder().mark(), NONE);
        DUE.answer("mark() of 3", Answers.typed(3).mark(), 0);
        DUE.answer("mark() of 5 0", Answers.typed(5, 0).mark(), 1);
        DUE.answer("mark() of 102020", Answers.typed(1, 0, 2, 0, 2, 0).mark(), 3);
        // Rotation 0 stands before those that equal it.
        DUE.answer("mark() of 2222", Answers.typed(2, 2, 2, 2).mark(), 0);
        DUE.answer("mark() of 1010", Answers.typed(1, 0, 1, 0).mark(), 2);
        DUE.answer("mark() of 100", Answers.typed(1, 0, 0).mark(), 2);
        BlockCoder x = Answers.typed(1);
        for (int n = 2; n <= 32; n++) {
            x.type(0);
        }
        DUE.answer("mark() of 1 and 31 letters 0", x.mark(), 31);
    }

    private static void promise7Rank() {
        DUE.in("promise 7");
        dueList("rank of nothing", new BlockCoder()::rank);
        dueList("rank of 0", Answers.typed(0)::rank, 0);
        dueList("rank of 5", Answers.typed(5)::rank, 5);
        dueList("rank of 55", Answers.typed(5, 5)::rank, 5, 0);
        // The column is 2 2 1 0 0 0.
        dueList("rank of 102020", Answers.typed(1, 0, 2, 0, 2, 0)::rank, 2, 0, 2, 2, 0, 0);
        // The column is 5 0 1 2 3 4: each letter goes behind all that came.
        dueList("rank of 012345", Answers.typed(0, 1, 2, 3, 4, 5)::rank, 5, 1, 2, 3, 4, 5);
    }

    private static void promise8And9Symbols() {
        DUE.in("promises 8 and 9");
        dueSymbols("nothing", new BlockCoder());
        dueSymbols("5", Answers.typed(5), 6);
        dueSymbols("102020", Answers.typed(1, 0, 2, 0, 2, 0), 3, 0, 3, 3, 1);
        dueSymbols("012345", Answers.typed(0, 1, 2, 3, 4, 5), 6, 2, 3, 4, 5, 6);
        // n letters 0 have n ranks 0: one run.
        int[][] runs = {{0}, {1}, {0, 0}, {1, 0}, {0, 1}, {1, 1}, {0, 0, 0}, {1, 0, 0}, {0, 1, 0}};
        for (int n = 1; n <= runs.length; n++) {
            dueSymbols(n + " letters 0", Answers.typed(new int[n]), runs[n - 1]);
        }
        dueSymbols("30 letters 0", Answers.typed(new int[30]), 1, 1, 1, 1);
        dueSymbols("31 letters 0", Answers.typed(new int[31]), 0, 0, 0, 0, 0);
        dueSymbols("32 letters 0", Answers.typed(new int[32]), 1, 0, 0, 0, 0);
        // Runs at the end, in the middle and between: the ranks are
        // 1 1 0 0 0, then 2 1 0 0 2, then 1 0 1 0, then 1 1 0 1 1.
        dueSymbols("10000", Answers.typed(1, 0, 0, 0, 0), 2, 2, 0, 0);
        dueSymbols("20001", Answers.typed(2, 0, 0, 0, 1), 3, 2, 1, 3);
        dueSymbols("0101", Answers.typed(0, 1, 0, 1), 2, 0, 2, 0);
        dueSymbols("00011", Answers.typed(0, 0, 0, 1, 1), 2, 2, 0, 2, 2);
    }

    private static void promise10Cost() {
        DUE.in("promise 10");
        DUE.answer("cost() of nothing", new BlockCoder().cost(), 0);
        // One symbol that occurs still takes a bit each time.
        DUE.answer("cost() of 5", Answers.typed(5).cost(), 1);
        DUE.answer("cost() of 0", Answers.typed(0).cost(), 1);
        DUE.answer("cost() of 000", Answers.typed(0, 0, 0).cost(), 2);
        DUE.answer("cost() of 0000", Answers.typed(0, 0, 0, 0).cost(), 2);
        // Symbols 3 0 3 3 1: 3 with one bit, 0 and 1 with two.
        DUE.answer("cost() of 102020", Answers.typed(1, 0, 2, 0, 2, 0).cost(), 7);
        // Symbols 6 2 3 4 5 6: two bits for 6 and for two of the others, three for the rest is
        // 4 + 4 + 6; three bits for all four others and one for 6 is 2 + 12, no less.
        DUE.answer("cost() of 012345", Answers.typed(0, 1, 2, 3, 4, 5).cost(), 14);
        // Symbols 2 2 0 2 2: two kinds, a bit each.
        DUE.answer("cost() of 00011", Answers.typed(0, 0, 0, 1, 1).cost(), 5);
        // Symbols 3 2 1 3: one bit for 3, two for the others.
        DUE.answer("cost() of 20001", Answers.typed(2, 0, 0, 0, 1).cost(), 6);
    }

    private static void promise11Decoded() {
        DUE.in("promise 11");
        dueList("decoded of nothing", new BlockCoder()::decoded);
        int[][] texts = {
            {5}, {0}, {0, 0}, {5, 0}, {1, 0, 2, 0, 2, 0}, {1, 0, 1, 0, 1, 0}, {2, 1, 1, 2, 1, 1},
            {0, 1, 2, 3, 4, 5}, {5, 4, 3, 2, 1, 0}, {3, 3, 3, 3, 3, 3, 3},
            {5, 5, 0, 0, 1, 5, 4, 4, 2, 0, 3, 3, 1, 0, 5, 2, 2, 4, 0, 0, 0, 5, 1, 3, 3, 3, 4, 2, 1, 0, 5, 5}
        };
        for (int[] text : texts) {
            dueList("decoded of " + Arrays.toString(text), Answers.typed(text)::decoded, text);
        }
    }

    private static void promise12Different() {
        DUE.in("promise 12");
        DUE.answer("different() of nothing", new BlockCoder().different(), 0);
        DUE.answer("different() of 5", Answers.typed(5).different(), 1);
        DUE.answer("different() of 000", Answers.typed(0, 0, 0).different(), 1);
        DUE.answer("different() of 0000", Answers.typed(0, 0, 0, 0).different(), 2);
        DUE.answer("different() of 102020", Answers.typed(1, 0, 2, 0, 2, 0).different(), 3);
        DUE.answer("different() of 012345", Answers.typed(0, 1, 2, 3, 4, 5).different(), 5);
    }

    private static void promise13RefusedCalls() {
        DUE.in("promise 13");
        int[] none = {};
        dueRefused(none, "type", BlockCoder::type, 6, BAD);
        dueRefused(none, "repeat", BlockCoder::repeat, 1, BAD);
        int[] some = {3, 0, 5, 5, 1, 0, 0, 2, 4, 4, 1, 3, 5, 0, 2, 2, 1};
        dueRefused(some, "type", BlockCoder::type, -1, BAD);
        dueRefused(some, "type", BlockCoder::type, 6, BAD);
        dueRefused(some, "repeat", BlockCoder::repeat, 0, BAD);
        dueRefused(some, "repeat", BlockCoder::repeat, 18, BAD);
        dueRefused(some, "repeat", BlockCoder::repeat, 17, FULL);
        dueRefused(some, "repeat", BlockCoder::repeat, 16, FULL);
        int[] full = Arrays.copyOf(some, 32);
        dueRefused(full, "type", BlockCoder::type, 1, FULL);
        dueRefused(full, "type", BlockCoder::type, 9, FULL);
        dueRefused(full, "repeat", BlockCoder::repeat, 1, FULL);
        dueRefused(full, "repeat", BlockCoder::repeat, -1, BAD);
        for (int[] text : new int[][] {none, some, full}) {
            for (int i : NO_PLACES) {
                dueRefused(text, "column", BlockCoder::column, i, NONE);
                dueRefused(text, "rank", BlockCoder::rank, i, NONE);
                dueRefused(text, "symbol", BlockCoder::symbol, i, NONE);
                dueRefused(text, "decoded", BlockCoder::decoded, i, NONE);
            }
        }
    }

    private static void promise13Questions() {
        DUE.in("promise 13, questions");
        BlockCoder asked = Answers.typed(2, 0, 1);
        Answers.of(asked);
        asked.type(5);
        Answers.of(asked);
        asked.repeat(3);
        DUE.that("a text that was asked about in between is the same",
                Answers.of(asked).equals(Answers.of(Answers.typed(2, 0, 1, 5, 0, 1, 5))));
    }

    private static void objectsAreApart() {
        DUE.in("two objects");
        BlockCoder one = Answers.typed(1, 0, 2);
        List<Integer> before = Answers.of(one);
        Answers.typed(5, 5, 4, 3).clear();
        Answers.typed(4, 4, 0, 1, 3);
        DUE.that("one object is untouched by others", before.equals(Answers.of(one)));
    }

    /** What they answer is free, but LANGUAGE.md lets no call ever throw. */
    private static void callsBeyondTheLastDoNotThrow() {
        BlockCoder x = new BlockCoder();
        for (int call = 0; call < 2000; call++) {
            x.type(call % 7);
            x.repeat(call % 5);
            if (call % 50 == 0) {
                x.clear();
            }
        }
        Answers.of(x);
    }

    private static void dueEmpty(BlockCoder x) {
        dueList("column", x::column);
        DUE.answer("mark()", x.mark(), NONE);
        dueList("rank", x::rank);
        dueSymbols("nothing", x);
        DUE.answer("cost()", x.cost(), 0);
        dueList("decoded", x::decoded);
        DUE.answer("different()", x.different(), 0);
    }

    private static void dueSymbols(String text, BlockCoder x, int... want) {
        DUE.answer("symbols() of " + text, x.symbols(), want.length);
        dueList("symbol of " + text, x::symbol, want);
    }

    private static void dueList(String call, IntUnaryOperator ask, int... want) {
        for (int i = 0; i < want.length; i++) {
            DUE.answer(call + " (" + i + ")", ask.applyAsInt(i), want[i]);
        }
        for (int i = want.length; i <= 33; i++) {
            DUE.answer(call + " (" + i + ")", ask.applyAsInt(i), NONE);
        }
        for (int i : NO_PLACES) {
            DUE.answer(call + " (" + i + ")", ask.applyAsInt(i), NONE);
        }
    }

    private static void dueRefused(int[] text, String call, ToIntBiFunction<BlockCoder, Integer> ask,
            int number, int want) {
        String told = call + "(" + number + ") on " + text.length + " letters";
        BlockCoder x = Answers.typed(text);
        DUE.answer(told, ask.applyAsInt(x, number), want);
        DUE.that(told + " changes nothing", Answers.of(x).equals(Answers.of(Answers.typed(text))));
        DUE.answer("clear() after " + told, x.clear(), text.length);
    }
}
