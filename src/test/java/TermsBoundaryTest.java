/** The boundary cases that stand under "What it is", "The public face" and "Terms". */
public final class TermsBoundaryTest {
    private static final int BAD = -1;
    private static final int FULL = -2;
    private static final String TWELVE = "012301230123";

    private static final Sentences sentences = new Sentences();

    public static void main(String[] args) {
        sentences.test("What it is", "used for at most 512 calls", TermsBoundaryTest::lastOf512Calls);
        sentences.test("The public face", "BAD = -1", () -> sentences.due("BAD", MatchSuite.BAD, BAD));
        sentences.test("The public face", "FULL = -2", () -> sentences.due("FULL", MatchSuite.FULL, FULL));
        sentences.test("Terms", "The TEXT is a list of at most 60 letters", TermsBoundaryTest::textOf60);
        sentences.test("Terms", "letters (0 .. 3)", TermsBoundaryTest::letters);
        sentences.test("Terms", "at the places 0, 1, ..", TermsBoundaryTest::firstAndLastPlace);
        sentences.test("Terms", "the PATTERN one of at most twelve letters", TermsBoundaryTest::patternOfTwelve);
        sentences.test("Terms", "Both are empty at first.", TermsBoundaryTest::emptyAtFirst);
        sentences.testEngines("Terms", "all letters of the pattern", TermsBoundaryTest::allLetters);
        sentences.testEngines("Terms", "i + length of the pattern is at most the length of the text",
            TermsBoundaryTest::occursWithinText);
        sentences.testEngines("Terms", "the empty pattern occurs at every place from 0 to the length of the text",
            TermsBoundaryTest::emptyPattern);
        sentences.test("Terms", "An ENGINE is a number 0 .. 9", TermsBoundaryTest::engines);
        sentences.test("Terms", "no answer depends on it", TermsBoundaryTest::noAnswerDependsOnEngine);
        sentences.test("Terms", "A BORDER of the pattern is a number b, less than its length",
            TermsBoundaryTest::borderLessThanLength);
        sentences.end();
    }

    private static void lastOf512Calls() {
        Run changing = sentences.run().due("write(0, 60)", 60);
        int[] letters = new int[60];
        for (int call = 2; call <= 512; call++) {
            int place = call % 60;
            int letter = call / 60 % 4;
            changing.due("change(" + place + ", " + letter + ")", letters[place]);
            letters[place] = letter;
        }
        Run growing = sentences.run();
        for (int call = 0; call < 510; call += 2) {
            growing.due("write(3, 60)", 60).due("cut(60)", 0);
        }
        growing.due("extend(2)", 1).due("shorten()", 2);
    }

    private static void textOf60() {
        sentences.run().due("write(2, 60)", 60).due("change(59, 1)", 2).due("change(60, 1)", BAD)
            .holds("2".repeat(59) + "1", "");
        sentences.run().due("write(2, 59)", 59).due("write(1, 1)", 60).due("write(0, 1)", FULL)
            .due("again(60, 1)", FULL).holds("2".repeat(59) + "1", "");
        sentences.run("3", "").due("again(1, 59)", 60).due("again(1, 1)", FULL).due("write(0, 1)", FULL)
            .holds("3".repeat(60), "");
    }

    private static void letters() {
        for (int letter = 0; letter <= 3; letter++) {
            String word = String.valueOf(letter);
            sentences.run().due("write(" + letter + ", 1)", 1).holds(word, "");
            sentences.run().due("extend(" + letter + ")", 1).holds("", word);
            sentences.run("1", "").due("change(0, " + letter + ")", 1).holds(word, "");
        }
        for (int letter : Sentences.outside(0, 3)) {
            sentences.run("1", "2").due("write(" + letter + ", 1)", BAD).due("extend(" + letter + ")", BAD)
                .due("change(0, " + letter + ")", BAD).holds("1", "2");
        }
    }

    private static void firstAndLastPlace() {
        sentences.run("120", "1").due("next(0, 0)", 0).due("shared(0)", 1).due("change(0, 3)", 1)
            .due("change(1, 3)", 2).due("change(2, 3)", 0).due("change(-1, 3)", BAD).due("change(3, 3)", BAD)
            .holds("333", "1");
    }

    private static void patternOfTwelve() {
        Run extended = sentences.run();
        for (int length = 1; length <= 12; length++) {
            extended.due("extend(" + (length - 1) % 4 + ")", length);
        }
        extended.due("extend(0)", FULL).holds("", TWELVE);
        sentences.run(TWELVE + "3", "").due("copy(1, 12)", true).due("extend(0)", FULL).due("copy(0, 13)", false)
            .holds(TWELVE + "3", TWELVE.substring(1) + "3");
        sentences.run("", TWELVE).due("shorten()", 3).due("extend(1)", 12).due("extend(1)", FULL)
            .holds("", "012301230121");
    }

    private static void emptyAtFirst() {
        sentences.run().due("cut(0)", 0).due("shorten()", BAD).holds("", "");
    }

    private static void allLetters(int engine) {
        for (int other = 0; other < 12; other++) {
            String text = "000" + "1".repeat(other) + "2" + "1".repeat(11 - other) + "000";
            sentences.run(text, "1".repeat(12)).due("count(" + engine + ")", 0);
            sentences.run(text, text.substring(3, 15)).due("count(" + engine + ")", 1)
                .due("next(" + engine + ", 0)", 3);
        }
    }

    private static void occursWithinText(int engine) {
        String count = "count(" + engine + ")";
        String last = "last(" + engine + ", 60)";
        sentences.run("30123", "123").due(count, 1).due(last, 2).due("cut(1)", 4).due(count, 0).due(last, BAD);
        sentences.run("00000", "00").due("cut(2)", 3).due(count, 2).due(last, 1);
        sentences.run("0", "00").due(count, 0).due(last, BAD);
        sentences.run("", "0").due(count, 0).due(last, BAD);
        sentences.run("1", "10").due(count, 0).due(last, BAD);
        sentences.run(TWELVE, TWELVE).due(count, 1).due(last, 0);
        sentences.run(TWELVE.substring(0, 11), TWELVE).due(count, 0).due(last, BAD);
        sentences.run(TWELVE, TWELVE).due("cut(1)", 11).due(count, 0).due("write(3, 1)", 12).due(count, 1);
        for (int n = 1; n <= 12; n++) {
            String end = "3".repeat(n - 1) + "1";
            sentences.run("0".repeat(60 - n) + end, end).due(count, 1).due(last, 60 - n);
            sentences.run("0".repeat(61 - n) + end.substring(0, n - 1), end).due(count, 0).due(last, BAD);
            sentences.run("2".repeat(60), "2".repeat(n)).due(count, 61 - n).due(last, 60 - n);
        }
    }

    private static void emptyPattern(int engine) {
        for (int length : new int[] {0, 1, 2, 30, 31, 32, 59, 60}) {
            sentences.run("1".repeat(length), "")
                .due("count(" + engine + ")", length + 1)
                .due("apart(" + engine + ")", length + 1)
                .due("next(" + engine + ", 0)", 0)
                .due("next(" + engine + ", " + length + ")", length)
                .due("next(" + engine + ", " + (length + 1) + ")", BAD)
                .due("last(" + engine + ", 0)", 0)
                .due("last(" + engine + ", -1)", BAD)
                .due("last(" + engine + ", 61)", length)
                .due("kth(" + engine + ", " + length + ")", length)
                .due("kth(" + engine + ", " + (length + 1) + ")", BAD);
        }
    }

    private static void engines() {
        for (int engine = 0; engine <= 9; engine++) {
            sentences.run("010", "0").due("count(" + engine + ")", 2)
                .due("agree(" + engine + ", " + engine + ")", true);
        }
        for (int engine : Sentences.outside(0, 9)) {
            sentences.run("010", "0").due("count(" + engine + ")", BAD).due("next(" + engine + ", 0)", BAD)
                .due("last(" + engine + ", 2)", BAD).due("kth(" + engine + ", 0)", BAD)
                .due("apart(" + engine + ")", BAD).due("agree(" + engine + ", " + engine + ")", false);
        }
    }

    private static void noAnswerDependsOnEngine() {
        String[] texts = {"", "0", TWELVE.substring(0, 11), TWELVE, "0".repeat(59), "0".repeat(60), TWELVE.repeat(5)};
        String[] patterns = {"", "0", "3", TWELVE.substring(0, 11), TWELVE, "0".repeat(11), "0".repeat(12)};
        for (String text : texts) {
            for (String pattern : patterns) {
                sentences.run(text, pattern).answersLike(text, pattern);
            }
        }
    }

    private static void borderLessThanLength() {
        for (int length = 1; length <= 12; length++) {
            sentences.run("", "2".repeat(length)).due("border()", length - 1);
            sentences.run("", "2".repeat(length - 1) + "1").due("border()", 0);
        }
    }
}
