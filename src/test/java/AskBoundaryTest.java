/** The boundary cases of the promises 15 to 17: the questions that take no engine. */
public final class AskBoundaryTest {
    private static final int BAD = -1;
    private static final String TWELVE = "012301230123";
    private static final String ALIKE = "2".repeat(60);

    private static final Sentences sentences = new Sentences();

    public static void main(String[] args) {
        sentences.test("Promise 15", "The greatest border of the pattern", AskBoundaryTest::borderLeastAndGreatest);
        sentences.test("Promise 15", "BAD when it is empty", AskBoundaryTest::borderOfNothing);
        sentences.test("Promise 16", "The number of letters in common at their beginnings",
            AskBoundaryTest::sharedFewestAndMost);
        sentences.test("Promise 16", "the text, from place i on", AskBoundaryTest::sharedNearEnd);
        sentences.test("Promise 16", "BAD when i is not from 0 to the length of the text",
            AskBoundaryTest::sharedFromNoPlace);
        sentences.test("Promise 17", "at most e letters", AskBoundaryTest::nearByJustSoMany);
        sentences.test("Promise 17", "The number of places at which the pattern would occur",
            AskBoundaryTest::nearWithinText);
        sentences.test("Promise 17", "e (0 .. 3)", AskBoundaryTest::nearOfNoneAndThree);
        sentences.test("Promise 17", "BAD when e is out of range", AskBoundaryTest::nearOutOfRange);
        sentences.end();
    }

    private static void borderLeastAndGreatest() {
        sentences.run("", "0").due("border()", 0);
        sentences.run("", "3").due("border()", 0);
        sentences.run("", "01").due("border()", 0);
        sentences.run("", "00").due("border()", 1);
        sentences.run("", "000000000001").due("border()", 0);
        sentences.run("", "100000000001").due("border()", 1);
        sentences.run("", "000000000000").due("border()", 11);
        sentences.run("", "010101010101").due("border()", 10);
        sentences.run("", TWELVE).due("border()", 8).due("shorten()", 3).due("border()", 7).due("extend(0)", 12)
            .due("border()", 1);
        sentences.run("", "001001002001").due("border()", 3);
        sentences.run("", "000100010000").due("border()", 3);
    }

    private static void borderOfNothing() {
        sentences.run().due("border()", BAD).holds("", "");
        sentences.run("0", "").due("border()", BAD).due("extend(1)", 1).due("border()", 0).due("shorten()", 1)
            .due("border()", BAD);
        sentences.run("000", "00").due("copy(3, 0)", true).due("border()", BAD).holds("000", "");
    }

    private static void sharedFewestAndMost() {
        sentences.run("0123", "").due("shared(0)", 0).due("shared(4)", 0);
        sentences.run("0123", "1").due("shared(0)", 0).due("shared(1)", 1);
        sentences.run("0123", "0122").due("shared(0)", 3);
        sentences.run("0123", "0123").due("shared(0)", 4);
        sentences.run("01230", "0123").due("shared(0)", 4);
        sentences.run("0123", "01230").due("shared(0)", 4);
        sentences.run(TWELVE + "0", TWELVE).due("shared(0)", 12);
        sentences.run(ALIKE, "2".repeat(12)).due("shared(0)", 12).due("shared(48)", 12);
        sentences.run(ALIKE, "2".repeat(11) + "0").due("shared(0)", 11);
    }

    private static void sharedNearEnd() {
        Run full = sentences.run(ALIKE, "2".repeat(12));
        for (int i = 48; i <= 60; i++) {
            full.due("shared(" + i + ")", 60 - i);
        }
        sentences.run("0", "00").due("shared(0)", 1).due("shared(1)", 0);
        sentences.run("2222", "22").due("cut(1)", 3).due("shared(1)", 2).due("shared(2)", 1).due("shared(3)", 0)
            .due("shared(4)", BAD);
        sentences.run("", "0").due("shared(0)", 0);
        sentences.run("222", "2").due("cut(60)", 0).due("shared(0)", 0).due("shared(1)", BAD);
    }

    private static void sharedFromNoPlace() {
        for (int length : new int[] {0, 1, 2, 59, 60}) {
            String text = ALIKE.substring(0, length);
            for (int i : Sentences.outside(0, length)) {
                sentences.run(text, "22").due("shared(" + i + ")", BAD).holds(text, "22");
                sentences.run(text, "").due("shared(" + i + ")", BAD);
            }
            sentences.run(text, "22").due("shared(" + length + ")", 0).due("shared(0)", Math.min(2, length));
        }
    }

    private static void nearByJustSoMany() {
        for (int others = 0; others <= 4; others++) {
            String text = "3".repeat(others) + "0".repeat(12 - others);
            String reversed = "0".repeat(12 - others) + "3".repeat(others);
            for (int e = 0; e <= 3; e++) {
                int want = others <= e ? 1 : 0;
                sentences.run(text, "0".repeat(12)).due("near(" + e + ")", want);
                sentences.run(reversed, "0".repeat(12)).due("near(" + e + ")", want);
            }
        }
        sentences.run("00010011", "0000").due("near(0)", 0).due("near(1)", 3).due("near(2)", 5).due("near(3)", 5);
    }

    private static void nearWithinText() {
        for (int e = 0; e <= 3; e++) {
            sentences.run("", "0").due("near(" + e + ")", 0);
            sentences.run("0", "00").due("near(" + e + ")", 0);
            sentences.run("00", "000").due("near(" + e + ")", 0);
            sentences.run("000", "000").due("near(" + e + ")", 1);
            sentences.run("0000", "000").due("near(" + e + ")", 2);
            sentences.run("0000", "000").due("cut(1)", 3).due("near(" + e + ")", 1).due("cut(1)", 2)
                .due("near(" + e + ")", 0);
            sentences.run("", "").due("near(" + e + ")", 1);
            sentences.run("0", "").due("near(" + e + ")", 2);
            sentences.run(ALIKE, "").due("near(" + e + ")", 61);
            sentences.run(ALIKE, "2").due("near(" + e + ")", 60);
            sentences.run(ALIKE, "2".repeat(12)).due("near(" + e + ")", 49);
        }
    }

    private static void nearOfNoneAndThree() {
        sentences.run("01010", "010").due("near(0)", 2);
        sentences.run("01020", "3").due("near(0)", 0).due("near(1)", 5);
        sentences.run("01020", "33").due("near(1)", 0).due("near(2)", 4);
        sentences.run("01020", "333").due("near(2)", 0).due("near(3)", 3);
        sentences.run("01020", "3333").due("near(3)", 0).due("change(4, 3)", 0).due("near(3)", 1);
    }

    private static void nearOutOfRange() {
        for (int e : Sentences.outside(0, 3)) {
            sentences.run("0101", "01").due("near(" + e + ")", BAD).holds("0101", "01");
            sentences.run("0101", "").due("near(" + e + ")", BAD);
            sentences.run("0", "01").due("near(" + e + ")", BAD);
            sentences.run().due("near(" + e + ")", BAD);
        }
    }
}
