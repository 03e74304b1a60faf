import java.util.ArrayList;
import java.util.List;

/**
 * Promise 13: "A call that is refused, because a number is not as said there, something is not
 * there, or a limit is reached, changes nothing." Every refused call is made on one of two
 * objects that had the same calls before; all that is asked and changed afterwards must be the
 * same on both.
 */
public final class RefusedCallTest {
    private static final int BAD = -1;
    private static final int FULL = -2;
    private static final int NONE = -3;
    private static final int LEAST = Integer.MIN_VALUE;
    private static final int GREATEST = Integer.MAX_VALUE;
    private static final Due DUE = new Due();

    private interface Call {
        int on(BlockCoder x);
    }

    private record Refused(String name, Call call, int want) {
    }

    public static void main(String[] args) {
        for (int n = 0; n <= 32; n++) {
            aNumberIsNotAsSaid(n);
            somethingIsNotThere(n);
            aLimitIsReached(n);
        }
        refusedCallsOneAfterTheOther();
        DUE.finish();
    }

    private static void aNumberIsNotAsSaid(int n) {
        DUE.in("promise 13: a number is not as said, on " + n + " letters");
        changesNothing(n, wrongNumbers(n));
    }

    private static void somethingIsNotThere(int n) {
        DUE.in("promise 13: something is not there, on " + n + " letters");
        changesNothing(n, absentThings(n));
    }

    private static void aLimitIsReached(int n) {
        DUE.in("promise 13: a limit is reached, on " + n + " letters");
        changesNothing(n, reachedLimits(n));
    }

    /** All of them in one run: what one refused call left behind, the next might show. */
    private static void refusedCallsOneAfterTheOther() {
        for (int n : new int[] {0, 1, 16, 17, 31, 32}) {
            DUE.in("promise 13: all refused calls, on " + n + " letters");
            BlockCoder asked = Answers.mixed(n);
            List<Refused> all = wrongNumbers(n);
            all.addAll(absentThings(n));
            all.addAll(reachedLimits(n));
            for (Refused one : all) {
                DUE.answer(one.name, one.call.on(asked), one.want);
            }
            dueAlike("all of them", n, asked, Answers.mixed(n));
        }
    }

    private static List<Refused> wrongNumbers(int n) {
        List<Refused> calls = new ArrayList<>();
        for (int letter : new int[] {LEAST, -1, 6, GREATEST}) {
            calls.add(new Refused("type(" + letter + ")", x -> x.type(letter), n == 32 ? FULL : BAD));
        }
        for (int count : new int[] {LEAST, -1, 0, n + 1, 33, GREATEST}) {
            calls.add(new Refused("repeat(" + count + ")", x -> x.repeat(count), BAD));
        }
        return calls;
    }

    private static List<Refused> absentThings(int n) {
        List<Refused> calls = new ArrayList<>();
        for (int i : new int[] {LEAST, -1, n, 32, GREATEST}) {
            calls.add(new Refused("column(" + i + ")", x -> x.column(i), NONE));
            calls.add(new Refused("rank(" + i + ")", x -> x.rank(i), NONE));
            // There are never more symbols than letters.
            calls.add(new Refused("symbol(" + i + ")", x -> x.symbol(i), NONE));
            calls.add(new Refused("decoded(" + i + ")", x -> x.decoded(i), NONE));
        }
        calls.add(new Refused("symbol(symbols())", x -> x.symbol(x.symbols()), NONE));
        if (n == 0) {
            calls.add(new Refused("mark()", BlockCoder::mark, NONE));
        }
        return calls;
    }

    private static List<Refused> reachedLimits(int n) {
        List<Refused> calls = new ArrayList<>();
        if (n == 32) {
            for (int letter : new int[] {0, 3, 5}) {
                calls.add(new Refused("type(" + letter + ")", x -> x.type(letter), FULL));
            }
        }
        if (n >= 17) {
            for (int count : new int[] {33 - n, 17, n}) {
                calls.add(new Refused("repeat(" + count + ")", x -> x.repeat(count), FULL));
            }
        }
        return calls;
    }

    private static void changesNothing(int n, List<Refused> calls) {
        for (Refused one : calls) {
            BlockCoder asked = Answers.mixed(n);
            DUE.answer(one.name, one.call.on(asked), one.want);
            dueAlike(one.name, n, asked, Answers.mixed(n));
        }
    }

    /** Asks and changes both in the same way, with 512 calls at most on each. */
    private static void dueAlike(String after, int n, BlockCoder asked, BlockCoder untouched) {
        dueSameAnswers("after " + after, n, asked, untouched);
        DUE.answer("type(4) after " + after, asked.type(4), untouched.type(4));
        DUE.answer("repeat(1) after " + after, asked.repeat(1), untouched.repeat(1));
        dueSameAnswers("with more letters after " + after, Math.min(n + 2, 32), asked, untouched);
        DUE.answer("clear() after " + after, asked.clear(), untouched.clear());
        DUE.answer("type(2) behind clear() after " + after, asked.type(2), untouched.type(2));
        dueSameAnswers("with another text after " + after, 1, asked, untouched);
    }

    private static void dueSameAnswers(String when, int n, BlockCoder asked, BlockCoder untouched) {
        DUE.that("the same answers " + when, Answers.of(asked, n).equals(Answers.of(untouched, n)));
    }
}
