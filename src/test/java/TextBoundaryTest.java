/** The boundary cases of the promises 1 to 5: a new object, and the calls that change the text. */
public final class TextBoundaryTest {
    private static final int BAD = -1;
    private static final int FULL = -2;
    private static final String SIXTY = "0123".repeat(15);

    private static final Sentences sentences = new Sentences();

    public static void main(String[] args) {
        sentences.test("Promise 1", "An empty text", TextBoundaryTest::newText);
        sentences.test("Promise 1", "an empty pattern", TextBoundaryTest::newPattern);
        sentences.test("Promise 2", "BAD when letter is not 0 .. 3", TextBoundaryTest::writeNoLetter);
        sentences.test("Promise 2", "BAD when n is not 1 .. 60", TextBoundaryTest::writeTooFewOrMany);
        sentences.test("Promise 2", "FULL when it would be longer than 60", TextBoundaryTest::writeTooLong);
        sentences.test("Promise 2", "FULL, changing nothing", TextBoundaryTest::writeChangesNothing);
        sentences.test("Promise 2", "tested in this order", TextBoundaryTest::writeBadBeforeFull);
        sentences.test("Promise 3", "each the one that stands back places before it", TextBoundaryTest::againOfItsOwn);
        sentences.test("Promise 3", "BAD when back is not from 1 to the length of the text",
            TextBoundaryTest::againFromNoPlace);
        sentences.test("Promise 3", "BAD when n is not 1 .. 60", TextBoundaryTest::againTooFewOrMany);
        sentences.test("Promise 3", "FULL as in write", TextBoundaryTest::againTooLong);
        sentences.test("Promise 4", "Takes the last n letters", TextBoundaryTest::cutAtEnds);
        sentences.test("Promise 4", "or all, if it has less", TextBoundaryTest::cutMoreThanThereAre);
        sentences.test("Promise 4", "BAD when n is not 0 .. 60", TextBoundaryTest::cutTooFewOrMany);
        sentences.test("Promise 5", "Changes the letter at a place of the text", TextBoundaryTest::changeAtEnds);
        sentences.test("Promise 5", "BAD, changing nothing, when there is none", TextBoundaryTest::changeNoPlace);
        sentences.test("Promise 5", "BAD, changing nothing, when letter is not 0 .. 3",
            TextBoundaryTest::changeToNoLetter);
        sentences.end();
    }

    private static void newText() {
        sentences.run().due("cut(0)", 0);
        sentences.run().due("change(0, 0)", BAD);
        sentences.run().due("again(1, 1)", BAD);
        sentences.run().due("copy(0, 1)", false);
        sentences.run().due("shared(0)", 0).due("shared(1)", BAD);
        sentences.run().due("write(0, 60)", 60);
    }

    private static void newPattern() {
        sentences.run().due("shorten()", BAD);
        sentences.run().due("border()", BAD);
        sentences.run().due("extend(0)", 1);
        sentences.run().due("near(0)", 1).due("near(3)", 1);
        for (int engine = 0; engine <= 9; engine++) {
            sentences.run().due("count(" + engine + ")", 1).due("next(" + engine + ", 0)", 0)
                .due("last(" + engine + ", 0)", 0).due("kth(" + engine + ", 0)", 0).due("apart(" + engine + ")", 1);
        }
    }

    private static void writeNoLetter() {
        for (int letter : Sentences.outside(0, 3)) {
            sentences.run("01", "2").due("write(" + letter + ", 1)", BAD).due("write(" + letter + ", 58)", BAD)
                .holds("01", "2");
        }
        sentences.run("01", "2").due("write(0, 1)", 3).due("write(3, 1)", 4).holds("0103", "2");
    }

    private static void writeTooFewOrMany() {
        for (int n : Sentences.outside(1, 60)) {
            sentences.run("01", "2").due("write(1, " + n + ")", BAD).holds("01", "2");
            sentences.run().due("write(1, " + n + ")", BAD).holds("", "");
        }
        sentences.run().due("write(1, 1)", 1).holds("1", "");
        sentences.run().due("write(1, 60)", 60).holds("1".repeat(60), "");
    }

    private static void writeTooLong() {
        for (int length = 1; length <= 60; length++) {
            Run run = sentences.run().due("write(1, " + length + ")", length);
            run.due("write(2, " + (61 - length) + ")", FULL).due("write(2, 60)", FULL);
            if (length < 60) {
                run.due("write(2, " + (60 - length) + ")", 60).due("write(2, 1)", FULL);
            }
        }
    }

    private static void writeChangesNothing() {
        sentences.run(SIXTY, "2").due("write(1, 1)", FULL).due("write(1, 60)", FULL).holds(SIXTY, "2");
        String shorter = SIXTY.substring(0, 58);
        sentences.run(shorter, "2").due("write(1, 3)", FULL).holds(shorter, "2").due("write(1, 2)", 60)
            .holds(shorter + "11", "2");
    }

    private static void writeBadBeforeFull() {
        for (int letter : Sentences.outside(0, 3)) {
            sentences.run(SIXTY, "").due("write(" + letter + ", 1)", BAD).due("write(" + letter + ", 60)", BAD)
                .due("write(" + letter + ", 61)", BAD);
        }
        for (int n : Sentences.outside(1, 60)) {
            sentences.run(SIXTY, "").due("write(0, " + n + ")", BAD);
        }
    }

    private static void againOfItsOwn() {
        sentences.run("0123", "").due("again(1, 56)", 60).holds("0123" + "3".repeat(56), "");
        sentences.run("0123", "").due("again(3, 7)", 11).holds("01231231231", "");
        sentences.run("0123", "").due("again(4, 4)", 8).due("again(8, 52)", 60).holds(SIXTY, "");
        sentences.run("0123", "").due("again(4, 1)", 5).holds("01230", "");
        sentences.run(SIXTY, "").due("cut(1)", 59).due("again(59, 1)", 60).holds(SIXTY.substring(0, 59) + "0", "");
        sentences.run("0123", "").due("cut(2)", 2).due("again(2, 3)", 5).holds("01010", "");
    }

    private static void againFromNoPlace() {
        for (int length : new int[] {1, 2, 30, 59}) {
            String text = SIXTY.substring(0, length);
            for (int back : Sentences.outside(1, length)) {
                sentences.run(text, "2").due("again(" + back + ", 1)", BAD).holds(text, "2");
            }
            sentences.run(text, "").due("again(1, 1)", length + 1).holds(text + text.charAt(length - 1), "");
            sentences.run(text, "").due("again(" + length + ", 1)", length + 1).holds(text + "0", "");
        }
        for (int back : new int[] {-1, 0, 1, 2, 60}) {
            sentences.run().due("again(" + back + ", 1)", BAD).holds("", "");
        }
        sentences.run("0123", "").due("cut(1)", 3).due("again(4, 1)", BAD).due("again(3, 1)", 4).holds("0120", "");
        sentences.run("0123", "").due("cut(60)", 0).due("again(1, 1)", BAD).holds("", "");
    }

    private static void againTooFewOrMany() {
        for (int n : Sentences.outside(1, 60)) {
            sentences.run("01", "2").due("again(1, " + n + ")", BAD).due("again(2, " + n + ")", BAD).holds("01", "2");
        }
        sentences.run("01", "2").due("again(2, 1)", 3).due("again(1, 57)", 60);
    }

    private static void againTooLong() {
        for (int length = 1; length <= 60; length++) {
            String text = SIXTY.substring(0, length);
            Run run = sentences.run(text, "");
            run.due("again(1, " + (61 - length) + ")", FULL).due("again(" + length + ", 60)", FULL).holds(text, "");
            if (length < 60) {
                run.due("again(1, " + (60 - length) + ")", 60).due("again(1, 1)", FULL);
            }
        }
    }

    private static void cutAtEnds() {
        sentences.run(SIXTY, "2").due("cut(0)", 60).holds(SIXTY, "2");
        sentences.run(SIXTY, "2").due("cut(1)", 59).holds(SIXTY.substring(0, 59), "2");
        sentences.run(SIXTY, "2").due("cut(59)", 1).holds("0", "2");
        sentences.run(SIXTY, "2").due("cut(60)", 0).holds("", "2");
        sentences.run("012", "2").due("cut(3)", 0).due("write(3, 1)", 1).holds("3", "2");
    }

    private static void cutMoreThanThereAre() {
        sentences.run("012", "2").due("cut(4)", 0).holds("", "2");
        sentences.run("012", "2").due("cut(60)", 0).due("write(1, 60)", 60).holds("1".repeat(60), "2");
        sentences.run(SIXTY.substring(0, 59), "").due("cut(60)", 0).holds("", "");
        sentences.run().due("cut(0)", 0).due("cut(1)", 0).due("cut(60)", 0).holds("", "");
    }

    private static void cutTooFewOrMany() {
        for (int n : Sentences.outside(0, 60)) {
            sentences.run(SIXTY, "2").due("cut(" + n + ")", BAD).holds(SIXTY, "2");
            sentences.run("01", "").due("cut(" + n + ")", BAD).holds("01", "");
            sentences.run().due("cut(" + n + ")", BAD).holds("", "");
        }
    }

    private static void changeAtEnds() {
        sentences.run(SIXTY, "").due("change(0, 3)", 0).due("change(59, 0)", 3).due("change(0, 3)", 3)
            .due("change(59, 0)", 0).holds("3" + SIXTY.substring(1, 59) + "0", "");
        sentences.run("2", "").due("change(0, 1)", 2).holds("1", "");
    }

    private static void changeNoPlace() {
        for (int length : new int[] {1, 2, 59, 60}) {
            String text = SIXTY.substring(0, length);
            for (int i : Sentences.outside(0, length - 1)) {
                sentences.run(text, "2").due("change(" + i + ", 1)", BAD).holds(text, "2");
            }
        }
        sentences.run().due("change(0, 1)", BAD).due("change(-1, 1)", BAD).due("write(0, 1)", 1).holds("0", "");
        sentences.run("012", "").due("cut(1)", 2).due("change(2, 3)", BAD).due("change(1, 3)", 1).holds("03", "");
        sentences.run("012", "").due("change(3, 4)", BAD).due("change(-1, -1)", BAD).holds("012", "");
    }

    private static void changeToNoLetter() {
        for (int letter : Sentences.outside(0, 3)) {
            sentences.run("0123", "2").due("change(0, " + letter + ")", BAD).due("change(3, " + letter + ")", BAD)
                .holds("0123", "2");
        }
    }
}
