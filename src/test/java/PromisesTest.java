/** What each promise says of ordinary inputs; the boundary cases are in the tests whose names end in BoundaryTest. */
public final class PromisesTest {
    private static final int BAD = -1;
    private static final String TWELVE = "012301230123";

    private static final Sentences sentences = new Sentences();

    public static void main(String[] args) {
        changeTests();
        engineTests();
        sentences.test("Promise 15", "The greatest border of the pattern", PromisesTest::border);
        sentences.test("Promise 16", "The number of letters that the text and the pattern have in common",
            PromisesTest::shared);
        sentences.test("Promise 17", "at most e letters of the text were other ones", PromisesTest::near);
        sentences.test("Promise 18", "a call that is refused changes nothing", PromisesTest::refused);
        sentences.end();
    }

    private static void changeTests() {
        sentences.test("Promise 1", "An empty text and an empty pattern", PromisesTest::newObject);
        sentences.test("Promise 2", "Appends n times a letter to the text", PromisesTest::write);
        sentences.test("Promise 3", "Appends n letters to the text", PromisesTest::again);
        sentences.test("Promise 4", "Takes the last n letters off the text", PromisesTest::cut);
        sentences.test("Promise 5", "Changes the letter at a place of the text", PromisesTest::change);
        sentences.test("Promise 6", "Appends a letter to the pattern", PromisesTest::extend);
        sentences.test("Promise 7", "Takes the last letter off the pattern", PromisesTest::shorten);
        sentences.test("Promise 8", "Makes the n letters of the text from place i on the pattern", PromisesTest::copy);
    }

    private static void engineTests() {
        sentences.testEngines("Promise 9", "The number of occurrences", PromisesTest::count);
        sentences.testEngines("Promise 9", "The number of occurrences, after changes",
            PromisesTest::countAfterChanges);
        sentences.testEngines("Promise 10", "The least occurrence from a place on", PromisesTest::next);
        sentences.testEngines("Promise 11", "The greatest occurrence up to a place", PromisesTest::last);
        sentences.testEngines("Promise 12", "Occurrence k", PromisesTest::kth);
        sentences.testEngines("Promise 13", "no two of which have a place in common", PromisesTest::apart);
        sentences.testEngines("Promise 14", "Whether the occurrences that two engines find are the same",
            PromisesTest::agree);
    }

    private static void newObject() {
        sentences.run().holds("", "");
        Run first = sentences.run();
        Run second = sentences.run().due("write(2, 5)", 5).due("extend(1)", 1);
        first.holds("", "");
        second.holds("22222", "1");
    }

    private static void write() {
        sentences.run().due("write(2, 3)", 3).due("write(0, 1)", 4).due("write(3, 2)", 6).due("write(1, 1)", 7)
            .holds("2220331", "");
    }

    private static void again() {
        sentences.run("0123", "").due("again(4, 2)", 6).holds("012301", "").due("again(2, 5)", 11)
            .holds("01230101010", "").due("again(1, 1)", 12).holds("012301010100", "");
    }

    private static void cut() {
        sentences.run("01230123", "12").due("cut(3)", 5).holds("01230", "12").due("cut(1)", 4).due("write(2, 1)", 5)
            .holds("01232", "12");
        sentences.run("1212", "12").due("count(0)", 2).due("cut(1)", 3).due("count(0)", 1);
    }

    private static void change() {
        sentences.run("0123", "3").due("change(1, 3)", 1).due("change(2, 0)", 2).due("change(1, 1)", 3)
            .due("change(1, 1)", 1).holds("0103", "3");
    }

    private static void extend() {
        sentences.run("01", "").due("extend(2)", 1).due("extend(0)", 2).due("extend(0)", 3).due("extend(3)", 4)
            .holds("01", "2003");
    }

    private static void shorten() {
        sentences.run("33", "2013").due("shorten()", 3).due("shorten()", 1).holds("33", "20").due("extend(3)", 3)
            .due("shorten()", 3).due("shorten()", 0).holds("33", "2");
    }

    private static void copy() {
        String text = TWELVE + "00";
        sentences.run(text, "33").due("copy(1, 3)", true).holds(text, "123").due("copy(10, 4)", true)
            .holds(text, "2300").due("copy(5, 2)", true).holds(text, "12");
        sentences.run(text, "").due("copy(3, 2)", true).due("change(3, 1)", 3).due("cut(11)", 3).holds("012", "30");
    }

    private static void count(int engine) {
        String count = "count(" + engine + ")";
        sentences.run("00000", "00").due(count, 4);
        sentences.run("0123301", "01").due(count, 2);
        sentences.run("01012010120", "0101").due(count, 2);
        sentences.run("0120120", "21").due(count, 0);
        sentences.run("0012300112", "12").due(count, 2);
    }

    private static void countAfterChanges(int engine) {
        String count = "count(" + engine + ")";
        sentences.run("01010101", "0101").due(count, 3)
            .due("change(4, 2)", 0).due(count, 1)
            .due("shorten()", 1).due("shorten()", 0).due(count, 3)
            .due("cut(1)", 7).due(count, 2)
            .due("extend(2)", 3).due(count, 1)
            .due("copy(3, 2)", true).due(count, 1)
            .due("again(4, 8)", 15).due(count, 3);
    }

    private static void next(int engine) {
        sentences.run("30030300", "30").due("next(" + engine + ", 1)", 3).due("next(" + engine + ", 4)", 5)
            .due("next(" + engine + ", 6)", BAD);
    }

    private static void last(int engine) {
        sentences.run("13003030", "30").due("last(" + engine + ", 3)", 1).due("last(" + engine + ", 5)", 4)
            .due("last(" + engine + ", 0)", BAD);
    }

    private static void kth(int engine) {
        sentences.run("13003030", "30").due("kth(" + engine + ", 0)", 1).due("kth(" + engine + ", 1)", 4)
            .due("kth(" + engine + ", 2)", 6).due("kth(" + engine + ", 3)", BAD);
    }

    private static void apart(int engine) {
        String apart = "apart(" + engine + ")";
        sentences.run("010101", "01").due(apart, 3);
        sentences.run("00000", "00").due(apart, 2);
        sentences.run("0101010", "010").due(apart, 2);
        sentences.run("3010300103", "03").due(apart, 2);
    }

    private static void agree(int engine) {
        for (String text : new String[] {"00100100", "01".repeat(30), TWELVE.repeat(4)}) {
            for (String pattern : new String[] {"0", "001", "0101", "1230", "2"}) {
                Run run = sentences.run(text, pattern);
                for (int other = 0; other <= 9; other++) {
                    run.due("agree(" + engine + ", " + other + ")", true);
                }
            }
        }
    }

    private static void border() {
        sentences.run("3", "010").due("border()", 1);
        sentences.run("3", "0101").due("border()", 2);
        sentences.run("3", "00100").due("border()", 2);
        sentences.run("3", "0010001").due("border()", 3);
        sentences.run("3", "010010100100").due("border()", 4);
        sentences.run("3", "01010").due("border()", 3).due("shorten()", 0).due("border()", 2).due("extend(1)", 5)
            .due("border()", 0);
    }

    private static void shared() {
        sentences.run("0120130", "0123").due("shared(0)", 3).due("shared(1)", 0).due("shared(3)", 2)
            .due("shared(6)", 1);
    }

    private static void near() {
        sentences.run("00010011", "0000").due("near(0)", 0).due("near(1)", 3).due("near(2)", 5).due("near(3)", 5);
        sentences.run("0123", "333").due("near(1)", 0).due("near(2)", 1).due("near(3)", 2);
        sentences.run("00000", "00").due("near(0)", 4);
    }

    private static void refused() {
        sentences.run("0123", "12").due("write(7, 2)", BAD).due("again(9, 2)", BAD).due("cut(70)", BAD)
            .due("change(9, 1)", BAD).due("extend(7)", BAD).due("copy(2, 7)", false).due("near(7)", BAD)
            .due("count(17)", BAD).due("shared(9)", BAD).due("agree(1, 17)", false).holds("0123", "12");
    }
}
