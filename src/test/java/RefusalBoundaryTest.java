/** The boundary cases of promise 18: the order of the tests, and what a refused call leaves. */
public final class RefusalBoundaryTest {
    private static final int BAD = -1;
    private static final int FULL = -2;
    private static final String TWELVE = "012301230123";
    private static final String SIXTY = TWELVE.repeat(5);

    private static final Sentences sentences = new Sentences();

    public static void main(String[] args) {
        sentences.test("Promise 18", "extend: tested in this order", RefusalBoundaryTest::extendOrder);
        sentences.test("Promise 18", "again: BAD is tested before FULL", RefusalBoundaryTest::againOrder);
        sentences.test("Promise 18", "copy: with n 0 place i must be from 0 to the length of the text",
            RefusalBoundaryTest::copyOfNothing);
        sentences.test("Promise 18", "a call that is refused changes nothing: write, again, cut, change",
            RefusalBoundaryTest::refusedForText);
        sentences.test("Promise 18", "a call that is refused changes nothing: extend, shorten, copy",
            RefusalBoundaryTest::refusedForPattern);
        sentences.test("Promise 18", "a call that is refused changes nothing: the questions",
            RefusalBoundaryTest::refusedQuestions);
        sentences.end();
    }

    private static void extendOrder() {
        for (int letter : Sentences.outside(0, 3)) {
            sentences.run("", TWELVE).due("extend(" + letter + ")", BAD).holds("", TWELVE);
        }
        for (int letter = 0; letter <= 3; letter++) {
            sentences.run("", TWELVE).due("extend(" + letter + ")", FULL).holds("", TWELVE);
        }
    }

    private static void againOrder() {
        for (int back : Sentences.outside(1, 60)) {
            sentences.run(SIXTY, "").due("again(" + back + ", 1)", BAD).due("again(" + back + ", 60)", BAD)
                .due("again(" + back + ", 61)", BAD).holds(SIXTY, "");
        }
        for (int n : Sentences.outside(1, 60)) {
            sentences.run(SIXTY, "").due("again(1, " + n + ")", BAD).due("again(60, " + n + ")", BAD)
                .holds(SIXTY, "");
        }
        sentences.run("01", "").due("again(3, 59)", BAD).due("again(3, 60)", BAD).due("again(2, 61)", BAD)
            .due("again(2, 59)", FULL).due("again(2, 60)", FULL).holds("01", "");
        sentences.run(SIXTY, "").due("again(1, 1)", FULL).due("again(60, 60)", FULL).holds(SIXTY, "");
    }

    private static void copyOfNothing() {
        for (int length : new int[] {0, 1, 3, 59, 60}) {
            String text = SIXTY.substring(0, length);
            for (int i : Sentences.outside(0, length)) {
                sentences.run(text, "3").due("copy(" + i + ", 0)", false).holds(text, "3");
            }
            for (int i = 0; i <= length; i++) {
                sentences.run(text, "3").due("copy(" + i + ", 0)", true).holds(text, "");
            }
        }
        sentences.run("012", "3").due("cut(1)", 2).due("copy(3, 0)", false).due("copy(2, 0)", true).holds("01", "");
    }

    /** A state is a text and a pattern; what the call leaves is seen by reading them and by all questions. */
    private static void dueRefused(String[] state, String call, int code) {
        sentences.run(state[0], state[1]).due(call, code).answersLike(state[0], state[1]).holds(state[0], state[1]);
    }

    private static void dueFalse(String[] state, String call) {
        sentences.run(state[0], state[1]).due(call, false).answersLike(state[0], state[1]).holds(state[0], state[1]);
    }

    private static String[][] states() {
        return new String[][] {{"", ""}, {"", "2"}, {"1", ""}, {"0101", "01"}, {SIXTY, ""}, {"", TWELVE},
            {SIXTY.substring(1), TWELVE.substring(1)}, {SIXTY, TWELVE}};
    }

    private static void refusedForText() {
        for (String[] state : states()) {
            int length = state[0].length();
            dueRefused(state, "write(-1, 1)", BAD);
            dueRefused(state, "write(4, 1)", BAD);
            dueRefused(state, "write(2, 0)", BAD);
            dueRefused(state, "write(2, -1)", BAD);
            dueRefused(state, "write(2, 61)", BAD);
            dueRefused(state, "again(0, 1)", BAD);
            dueRefused(state, "again(" + (length + 1) + ", 1)", BAD);
            dueRefused(state, "again(1, 0)", BAD);
            dueRefused(state, "again(1, -1)", BAD);
            dueRefused(state, "again(1, 61)", BAD);
            dueRefused(state, "cut(-1)", BAD);
            dueRefused(state, "cut(61)", BAD);
            dueRefused(state, "change(-1, 2)", BAD);
            dueRefused(state, "change(" + length + ", 2)", BAD);
            dueRefused(state, "change(0, -1)", BAD);
            dueRefused(state, "change(0, 4)", BAD);
            if (length > 0) {
                dueRefused(state, "write(2, " + (61 - length) + ")", FULL);
                dueRefused(state, "write(2, 60)", FULL);
                dueRefused(state, "again(1, " + (61 - length) + ")", FULL);
                dueRefused(state, "again(" + length + ", 60)", FULL);
            }
        }
    }

    private static void refusedForPattern() {
        for (String[] state : states()) {
            int length = state[0].length();
            dueRefused(state, "extend(-1)", BAD);
            dueRefused(state, "extend(4)", BAD);
            if (state[1].length() == 12) {
                dueRefused(state, "extend(2)", FULL);
            }
            if (state[1].isEmpty()) {
                dueRefused(state, "shorten()", BAD);
            }
            dueFalse(state, "copy(0, -1)");
            dueFalse(state, "copy(0, 13)");
            dueFalse(state, "copy(-1, 0)");
            dueFalse(state, "copy(-1, 1)");
            dueFalse(state, "copy(" + length + ", 1)");
            dueFalse(state, "copy(" + (length + 1) + ", 0)");
            dueFalse(state, "copy(" + Math.max(0, length - 11) + ", 12)");
        }
    }

    private static void refusedQuestions() {
        for (String[] state : states()) {
            int length = state[0].length();
            for (int engine : new int[] {-1, 10}) {
                dueRefused(state, "count(" + engine + ")", BAD);
                dueRefused(state, "next(" + engine + ", 0)", BAD);
                dueRefused(state, "last(" + engine + ", 60)", BAD);
                dueRefused(state, "kth(" + engine + ", 0)", BAD);
                dueRefused(state, "apart(" + engine + ")", BAD);
                dueFalse(state, "agree(" + engine + ", 0)");
                dueFalse(state, "agree(0, " + engine + ")");
            }
            for (int engine = 0; engine <= 9; engine++) {
                dueRefused(state, "next(" + engine + ", 61)", BAD);
                dueRefused(state, "last(" + engine + ", -1)", BAD);
                dueRefused(state, "kth(" + engine + ", 61)", BAD);
            }
            if (state[1].isEmpty()) {
                dueRefused(state, "border()", BAD);
            }
            dueRefused(state, "shared(-1)", BAD);
            dueRefused(state, "shared(" + (length + 1) + ")", BAD);
            dueRefused(state, "near(-1)", BAD);
            dueRefused(state, "near(4)", BAD);
        }
    }
}
