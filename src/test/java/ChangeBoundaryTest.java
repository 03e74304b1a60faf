import java.util.Arrays;

/**
 * The boundary cases of the calls that change the text (promises 1 to 4) and of the number of
 * calls: one method for each sentence of the document that names one.
 */
public final class ChangeBoundaryTest {
    private static final int BAD = -1;
    private static final int FULL = -2;
    private static final int LEAST = Integer.MIN_VALUE;
    private static final int GREATEST = Integer.MAX_VALUE;
    private static final int[] WRONG_LETTERS = {
        LEAST, LEAST + 1, LEAST + 5, -65536, -256, -6, -2, -1,
        6, 7, 8, 31, 32, 33, 256, 261, 65536, 65541, GREATEST - 1, GREATEST
    };
    private static final Due DUE = new Due();

    public static void main(String[] args) {
        anEmptyText();
        typeIsFullAt32Letters();
        typeIsFullAt32LettersHoweverTheyCame();
        typeIsBadForALetterOutside();
        typeTakesEveryLetterInside();
        typeTestsFullBeforeBad();
        typeAddsAtTheEnd();
        repeatIsBadBelow1();
        repeatIsBadAboveTheNumberOfLetters();
        repeatIsFullAbove32Letters();
        repeatTestsBadBeforeFull();
        repeatAtEveryLengthAndCount();
        repeatCopiesTheLastLetters();
        clearAnswersHowManyThereWere();
        clearLeavesAnEmptyText();
        atMost512CallsCountEachKindOfCall();
        atMost512CallsCountOneLongRun();
        laterCallsMayAnswerAnythingButMustEnd();
        DUE.finish();
    }

    // ---- Promise 1: "An empty text." ----

    private static void anEmptyText() {
        DUE.in("promise 1: an empty text");
        DUE.empty(new BlockCoder());
        DUE.answer("clear() at first", new BlockCoder().clear(), 0);
        DUE.answer("repeat(0) at first", new BlockCoder().repeat(0), BAD);
        DUE.answer("repeat(1) at first", new BlockCoder().repeat(1), BAD);
        BlockCoder x = new BlockCoder();
        DUE.answer("type(0) at first", x.type(0), 1);
        DUE.answer("mark() of one letter", x.mark(), 0);
        DUE.list("decoded of one letter", x::decoded, 0);
    }

    // ---- Promise 2: "32 letters are there: FULL" ----

    private static void typeIsFullAt32Letters() {
        DUE.in("promise 2: FULL at 32 letters");
        BlockCoder x = Answers.mixed(30);
        DUE.answer("type(0) on 30", x.type(0), 31);
        DUE.answer("type(5) on 31", x.type(5), 32);
        for (int letter = 0; letter <= 5; letter++) {
            DUE.answer("type(" + letter + ") on 32", x.type(letter), FULL);
        }
        DUE.answer("clear()", x.clear(), 32);
        DUE.answer("type(5) on a full text that was cleared", x.type(5), 1);
    }

    private static void typeIsFullAt32LettersHoweverTheyCame() {
        DUE.in("promise 2: FULL at 32 letters, after repeat");
        BlockCoder x = Answers.mixed(16);
        DUE.answer("repeat(15) on 16", x.repeat(15), 31);
        DUE.answer("type(2) on 31", x.type(2), 32);
        DUE.answer("type(2) on 32", x.type(2), FULL);
        x = Answers.mixed(16);
        DUE.answer("repeat(16) on 16", x.repeat(16), 32);
        DUE.answer("type(2) on 32", x.type(2), FULL);
    }

    // ---- Promise 2: "letter outside 0..5: BAD" ----

    private static void typeIsBadForALetterOutside() {
        DUE.in("promise 2: BAD outside 0..5");
        for (int n : new int[] {0, 1, 2, 16, 30, 31}) {
            BlockCoder x = Answers.mixed(n);
            for (int letter : WRONG_LETTERS) {
                DUE.answer("type(" + letter + ") on " + n, x.type(letter), BAD);
            }
            DUE.answer("type(0) on " + n + " after those", x.type(0), n + 1);
        }
    }

    private static void typeTakesEveryLetterInside() {
        DUE.in("promise 2: 0..5 are letters");
        for (int n : new int[] {0, 1, 31}) {
            for (int letter = 0; letter <= 5; letter++) {
                BlockCoder x = Answers.mixed(n);
                DUE.answer("type(" + letter + ") on " + n, x.type(letter), n + 1);
                DUE.answer("decoded(" + n + ")", x.decoded(n), letter);
            }
        }
    }

    // ---- Promise 2: "(tested in this order)" ----

    private static void typeTestsFullBeforeBad() {
        DUE.in("promise 2: FULL is tested before BAD");
        for (int letter : WRONG_LETTERS) {
            DUE.answer("type(" + letter + ") on 31", Answers.mixed(31).type(letter), BAD);
            DUE.answer("type(" + letter + ") on 32", Answers.mixed(32).type(letter), FULL);
        }
    }

    // ---- Promise 2: "Adds a letter at the end." "Else answers the number of letters." ----

    private static void typeAddsAtTheEnd() {
        DUE.in("promise 2: adds at the end");
        int[] letters = Answers.mixedLetters(32);
        BlockCoder x = new BlockCoder();
        for (int n = 1; n <= 32; n++) {
            DUE.answer("type number " + n, x.type(letters[n - 1]), n);
            DUE.answer("decoded(" + (n - 1) + ")", x.decoded(n - 1), letters[n - 1]);
            DUE.answer("decoded(0)", x.decoded(0), letters[0]);
        }
        DUE.list("decoded of 32", x::decoded, letters);
    }

    // ---- Promise 3: "count below 1 or above the number of letters: BAD" ----

    private static void repeatIsBadBelow1() {
        DUE.in("promise 3: BAD below 1");
        for (int n : new int[] {0, 1, 2, 16, 17, 31, 32}) {
            BlockCoder x = Answers.mixed(n);
            for (int count : new int[] {LEAST, LEAST + 1, LEAST + 32, -65535, -255, -33, -32, -31, -2, -1, 0}) {
                DUE.answer("repeat(" + count + ") on " + n, x.repeat(count), BAD);
            }
        }
        DUE.answer("repeat(1) on 1", Answers.mixed(1).repeat(1), 2);
        DUE.answer("repeat(1) on 31", Answers.mixed(31).repeat(1), 32);
    }

    private static void repeatIsBadAboveTheNumberOfLetters() {
        DUE.in("promise 3: BAD above the number of letters");
        for (int n = 0; n <= 32; n++) {
            DUE.answer("repeat(" + (n + 1) + ") on " + n, Answers.mixed(n).repeat(n + 1), BAD);
            for (int count : new int[] {33, 64, 257, 65537, GREATEST - 32, GREATEST - 31, GREATEST - 1, GREATEST}) {
                DUE.answer("repeat(" + count + ") on " + n, Answers.mixed(n).repeat(count), BAD);
            }
        }
        for (int n = 2; n <= 16; n++) {
            DUE.answer("repeat(" + (n - 1) + ") on " + n, Answers.mixed(n).repeat(n - 1), 2 * n - 1);
            DUE.answer("repeat(" + n + ") on " + n, Answers.mixed(n).repeat(n), 2 * n);
        }
    }

    // ---- Promise 3: "more than 32 letters would be there: FULL" ----

    private static void repeatIsFullAbove32Letters() {
        DUE.in("promise 3: FULL above 32 letters");
        DUE.answer("repeat(14) on 17", Answers.mixed(17).repeat(14), 31);
        DUE.answer("repeat(15) on 17", Answers.mixed(17).repeat(15), 32);
        DUE.answer("repeat(16) on 17", Answers.mixed(17).repeat(16), FULL);
        DUE.answer("repeat(17) on 17", Answers.mixed(17).repeat(17), FULL);
        DUE.answer("repeat(7) on 24", Answers.mixed(24).repeat(7), 31);
        DUE.answer("repeat(8) on 24", Answers.mixed(24).repeat(8), 32);
        DUE.answer("repeat(9) on 24", Answers.mixed(24).repeat(9), FULL);
        DUE.answer("repeat(1) on 30", Answers.mixed(30).repeat(1), 31);
        DUE.answer("repeat(2) on 30", Answers.mixed(30).repeat(2), 32);
        DUE.answer("repeat(3) on 30", Answers.mixed(30).repeat(3), FULL);
        DUE.answer("repeat(1) on 31", Answers.mixed(31).repeat(1), 32);
        DUE.answer("repeat(2) on 31", Answers.mixed(31).repeat(2), FULL);
        DUE.answer("repeat(31) on 31", Answers.mixed(31).repeat(31), FULL);
        DUE.answer("repeat(1) on 32", Answers.mixed(32).repeat(1), FULL);
        DUE.answer("repeat(32) on 32", Answers.mixed(32).repeat(32), FULL);
    }

    // ---- Promise 3: "Tested in this order" ----

    private static void repeatTestsBadBeforeFull() {
        DUE.in("promise 3: BAD is tested before FULL");
        // 16 and 16 are just 32; one more is too many in both ways.
        DUE.answer("repeat(16) on 16", Answers.mixed(16).repeat(16), 32);
        DUE.answer("repeat(17) on 16", Answers.mixed(16).repeat(17), BAD);
        DUE.answer("repeat(17) on 17", Answers.mixed(17).repeat(17), FULL);
        DUE.answer("repeat(18) on 17", Answers.mixed(17).repeat(18), BAD);
        DUE.answer("repeat(32) on 31", Answers.mixed(31).repeat(32), BAD);
        DUE.answer("repeat(33) on 32", Answers.mixed(32).repeat(33), BAD);
        DUE.answer("repeat(greatest) on 32", Answers.mixed(32).repeat(GREATEST), BAD);
        // In a full text a count below 1 is BAD all the same.
        DUE.answer("repeat(1) on 32", Answers.mixed(32).repeat(1), FULL);
        DUE.answer("repeat(0) on 32", Answers.mixed(32).repeat(0), BAD);
        DUE.answer("repeat(-1) on 32", Answers.mixed(32).repeat(-1), BAD);
        DUE.answer("repeat(least) on 32", Answers.mixed(32).repeat(LEAST), BAD);
    }

    private static void repeatAtEveryLengthAndCount() {
        DUE.in("promise 3: every length and count");
        for (int n = 0; n <= 32; n++) {
            for (int count = -2; count <= 34; count++) {
                boolean bad = count < 1 || count > n;
                int want = bad ? BAD : n + count > 32 ? FULL : n + count;
                BlockCoder x = Answers.mixed(n);
                DUE.answer("repeat(" + count + ") on " + n, x.repeat(count), want);
                DUE.answer("clear() after it", x.clear(), want < 0 ? n : want);
            }
        }
    }

    // ---- Promise 3: "Adds a copy of the last count letters at the end." ----

    private static void repeatCopiesTheLastLetters() {
        DUE.in("promise 3: a copy of the last letters");
        for (int n = 1; n <= 31; n++) {
            for (int count = 1; count <= n && n + count <= 32; count++) {
                int[] letters = Answers.mixedLetters(n);
                int[] want = Arrays.copyOf(letters, n + count);
                System.arraycopy(letters, n - count, want, n, count);
                BlockCoder x = Answers.mixed(n);
                x.repeat(count);
                DUE.list("decoded after repeat(" + count + ") on " + n, x::decoded, want);
            }
        }
    }

    // ---- Promise 4: "Makes the text empty; answers how many letters it had." ----

    private static void clearAnswersHowManyThereWere() {
        DUE.in("promise 4: how many letters it had");
        for (int n = 0; n <= 32; n++) {
            BlockCoder x = Answers.mixed(n);
            DUE.answer("clear() of " + n, x.clear(), n);
            DUE.answer("clear() once more", x.clear(), 0);
        }
        BlockCoder x = Answers.mixed(32);
        x.type(1);
        x.repeat(1);
        x.repeat(33);
        DUE.answer("clear() after refused calls on 32", x.clear(), 32);
    }

    private static void clearLeavesAnEmptyText() {
        DUE.in("promise 4: makes the text empty");
        for (int n : new int[] {0, 1, 31, 32}) {
            BlockCoder x = Answers.mixed(n);
            x.clear();
            DUE.empty(x);
            DUE.answer("repeat(1) after clear() of " + n, x.repeat(1), BAD);
            DUE.answer("type(4) after clear() of " + n, x.type(4), 1);
            DUE.answer("repeat(2) of the one letter", x.repeat(2), BAD);
            DUE.answer("repeat(1) of the one letter", x.repeat(1), 2);
            DUE.list("decoded after it", x::decoded, 4, 4);
        }
    }

    // ---- "An object is used for at most 512 calls after it has been made" ----

    private static void atMost512CallsCountEachKindOfCall() {
        DUE.in("calls number 511 and 512");
        BlockCoder x = after510Calls();
        DUE.answer("type(3)", x.type(3), 7);
        DUE.answer("type(3)", x.type(3), 8);
        x = after510Calls();
        DUE.answer("repeat(6)", x.repeat(6), 12);
        DUE.answer("decoded(11)", x.decoded(11), 0);
        x = after510Calls();
        DUE.answer("repeat(7)", x.repeat(7), BAD);
        DUE.answer("type(6)", x.type(6), BAD);
        x = after510Calls();
        DUE.answer("clear()", x.clear(), 6);
        DUE.answer("clear()", x.clear(), 0);
        x = after510Calls();
        DUE.answer("column(0)", x.column(0), 2);
        DUE.answer("column(5)", x.column(5), 0);
        x = after510Calls();
        DUE.answer("mark()", x.mark(), 3);
        DUE.answer("mark()", x.mark(), 3);
        x = after510Calls();
        DUE.answer("rank(0)", x.rank(0), 2);
        DUE.answer("rank(5)", x.rank(5), 0);
        x = after510Calls();
        DUE.answer("symbols()", x.symbols(), 5);
        DUE.answer("symbol(4)", x.symbol(4), 1);
        x = after510Calls();
        DUE.answer("cost()", x.cost(), 7);
        DUE.answer("different()", x.different(), 3);
        x = after510Calls();
        DUE.answer("decoded(4)", x.decoded(4), 2);
        DUE.answer("decoded(5)", x.decoded(5), 0);
    }

    private static BlockCoder after510Calls() {
        BlockCoder x = Answers.typed(1, 0, 2, 0, 2, 0);
        for (int call = 7; call <= 510; call++) {
            x.cost();
        }
        return x;
    }

    private static void atMost512CallsCountOneLongRun() {
        DUE.in("512 calls that change the text");
        BlockCoder x = new BlockCoder();
        for (int call = 1; call <= 512; call++) {
            int before = (call - 1) % 34;
            if (before == 33) {
                DUE.answer("call " + call + ", clear()", x.clear(), 32);
            } else {
                int letter = call % 6;
                DUE.answer("call " + call + ", type()", x.type(letter), before == 32 ? FULL : before + 1);
            }
        }
    }

    /** What they answer is free, but LANGUAGE.md lets no call ever throw or fail to end. */
    private static void laterCallsMayAnswerAnythingButMustEnd() {
        BlockCoder x = new BlockCoder();
        for (int call = 0; call < 2000; call++) {
            x.type(call % 7);
            x.repeat(call % 5);
            if (call % 50 == 0) {
                Answers.of(x, 32);
                x.clear();
            }
        }
    }
}
