/** The boundary cases of the promises 6 to 8: the calls that change the pattern. */
public final class PatternBoundaryTest {
    private static final int BAD = -1;
    private static final int FULL = -2;
    private static final int LEAST = Integer.MIN_VALUE;
    private static final int GREATEST = Integer.MAX_VALUE;
    private static final String TWELVE = "012301230123";
    private static final String SIXTY = "0123".repeat(15);

    private static final Sentences sentences = new Sentences();

    public static void main(String[] args) {
        sentences.test("Promise 6", "BAD when letter is not 0 .. 3", PatternBoundaryTest::extendByNoLetter);
        sentences.test("Promise 6", "FULL when it has twelve", PatternBoundaryTest::extendTwelve);
        sentences.test("Promise 7", "Takes the last letter off the pattern", PatternBoundaryTest::shortenToNothing);
        sentences.test("Promise 7", "BAD when there is none", PatternBoundaryTest::shortenNothing);
        sentences.test("Promise 8", "the n letters of the text from place i on", PatternBoundaryTest::copyAtEnds);
        sentences.test("Promise 8", "false, changing nothing, when n is not 0 .. 12",
            PatternBoundaryTest::copyTooFewOrMany);
        sentences.test("Promise 8", "false, changing nothing, when there are not so many letters there",
            PatternBoundaryTest::copyBeyondEnd);
        sentences.test("Promise 8", "not so many letters there, from a place before the first",
            PatternBoundaryTest::copyBeforeFirst);
        sentences.test("Promise 8", "not so many letters there, where place and number wrap around",
            PatternBoundaryTest::copyWhereSumWraps);
        sentences.end();
    }

    private static void extendByNoLetter() {
        for (int letter : Sentences.outside(0, 3)) {
            sentences.run("01", "").due("extend(" + letter + ")", BAD).holds("01", "");
            sentences.run("01", "12").due("extend(" + letter + ")", BAD).holds("01", "12");
        }
        sentences.run("01", "12").due("extend(0)", 3).due("extend(3)", 4).holds("01", "1203");
    }

    private static void extendTwelve() {
        String eleven = TWELVE.substring(0, 11);
        sentences.run("01", eleven).due("extend(2)", 12).due("extend(2)", FULL).due("extend(0)", FULL)
            .holds("01", eleven + "2");
        sentences.run(SIXTY, "").due("copy(0, 12)", true).due("extend(3)", FULL).holds(SIXTY, TWELVE);
        sentences.run(SIXTY, eleven).due("extend(3)", 12).due("shorten()", 3).due("extend(1)", 12)
            .due("extend(1)", FULL).holds(SIXTY, eleven + "1");
    }

    private static void shortenToNothing() {
        Run run = sentences.run("3", TWELVE);
        for (int j = 11; j >= 0; j--) {
            run.due("shorten()", j % 4);
        }
        run.holds("3", "");
        sentences.run("3", TWELVE).due("extend(0)", FULL).due("shorten()", 3).holds("3", TWELVE.substring(0, 11));
    }

    private static void shortenNothing() {
        sentences.run("3", "").due("shorten()", BAD).due("shorten()", BAD).due("extend(1)", 1).holds("3", "1");
        sentences.run("3", "2").due("shorten()", 2).due("shorten()", BAD).due("extend(0)", 1).holds("3", "0");
        sentences.run("3", "2").due("copy(0, 0)", true).due("shorten()", BAD).holds("3", "");
    }

    private static void copyAtEnds() {
        for (int n = 0; n <= 12; n++) {
            sentences.run(SIXTY, "33").due("copy(0, " + n + ")", true).holds(SIXTY, SIXTY.substring(0, n));
            sentences.run(SIXTY, "33").due("copy(" + (60 - n) + ", " + n + ")", true)
                .holds(SIXTY, SIXTY.substring(60 - n));
            sentences.run(SIXTY.substring(0, n), TWELVE).due("copy(0, " + n + ")", true)
                .holds(SIXTY.substring(0, n), SIXTY.substring(0, n));
        }
        sentences.run("012", "33").due("copy(2, 1)", true).holds("012", "2");
    }

    private static void copyTooFewOrMany() {
        for (int n : Sentences.outside(0, 12)) {
            sentences.run(SIXTY, "33").due("copy(0, " + n + ")", false).due("copy(40, " + n + ")", false)
                .due("copy(60, " + n + ")", false).holds(SIXTY, "33");
            sentences.run("", "33").due("copy(0, " + n + ")", false).holds("", "33");
        }
        sentences.run(SIXTY, "").due("copy(1, 13)", false).due("copy(1, -1)", false).holds(SIXTY, "");
        sentences.run(SIXTY, TWELVE).due("copy(1, 13)", false).due("copy(1, -1)", false).holds(SIXTY, TWELVE);
    }

    private static void copyBeyondEnd() {
        for (int n = 1; n <= 12; n++) {
            sentences.run(SIXTY, "33").due("copy(" + (61 - n) + ", " + n + ")", false)
                .due("copy(60, " + n + ")", false).due("copy(61, " + n + ")", false).holds(SIXTY, "33");
            String shorter = SIXTY.substring(0, n - 1);
            sentences.run(shorter, "33").due("copy(0, " + n + ")", false).holds(shorter, "33");
        }
        sentences.run("0123", "33").due("cut(1)", 3).due("copy(1, 3)", false).due("copy(3, 1)", false)
            .holds("012", "33").due("copy(1, 2)", true).holds("012", "12");
    }

    private static void copyBeforeFirst() {
        for (int n = 1; n <= 12; n++) {
            for (int i : new int[] {-1, -n, -n - 1, -64, LEAST, LEAST + n}) {
                sentences.run(SIXTY, "33").due("copy(" + i + ", " + n + ")", false).holds(SIXTY, "33");
            }
        }
    }

    private static void copyWhereSumWraps() {
        for (int n = 1; n <= 12; n++) {
            for (int i : new int[] {GREATEST, GREATEST - n, GREATEST - n + 1, GREATEST - 11}) {
                sentences.run(SIXTY, "33").due("copy(" + i + ", " + n + ")", false).holds(SIXTY, "33");
            }
        }
        for (int n : new int[] {GREATEST, GREATEST - 58, LEAST}) {
            for (int i : new int[] {59, GREATEST, LEAST}) {
                sentences.run(SIXTY, "33").due("copy(" + i + ", " + n + ")", false).holds(SIXTY, "33");
            }
        }
    }
}
