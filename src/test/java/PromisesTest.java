/** One method a promise: ordinary inputs, the edges that the document names, and wrong inputs. */
public final class PromisesTest {
    private static final int BAD = -1;
    private static final int FULL = -2;
    private static final int LEAST = Integer.MIN_VALUE;
    private static final int GREATEST = Integer.MAX_VALUE;
    private static final int[] NO_LETTERS = {-1, 4, LEAST, GREATEST};
    private static final int[] NO_ENGINES = {-1, 10, LEAST, GREATEST};
    private static final String TWELVE = "012301230123";

    private static final Check check = new Check();

    public static void main(String[] args) {
        promise1NewObject();
        promise2Write();
        promise3Again();
        promise4Cut();
        promise5Change();
        promise6Extend();
        promise7Shorten();
        promise8Copy();
        for (int engine = 0; engine <= 9; engine++) {
            promise9Count(engine);
            promise10Next(engine);
            promise11Last(engine);
            promise12Kth(engine);
            promise13Apart(engine);
            promise14Agree(engine);
        }
        noSuchEngine();
        promise15Border();
        promise16Shared();
        promise17Near();
        promise18Order();
        promise18RefusedCallsChangeNothing();
        check.end();
    }

    private static void dueState(String after, MatchSuite suite, String text, String pattern) {
        check.due("the text after " + after, Probe.textOf(suite), text);
        check.due("the pattern after " + after, Probe.patternOf(suite), pattern);
    }

    private static void promise1NewObject() {
        MatchSuite suite = new MatchSuite();
        check.due("1: BAD", MatchSuite.BAD, BAD);
        check.due("1: FULL", MatchSuite.FULL, FULL);
        check.due("1: cut(0)", suite.cut(0), 0);
        check.due("1: shorten()", suite.shorten(), BAD);
        check.due("1: count(0)", suite.count(0), 1);
        MatchSuite other = new MatchSuite();
        suite.write(2, 5);
        suite.extend(1);
        dueState("1: calls on another object", other, "", "");
    }

    private static void promise2Write() {
        MatchSuite suite = new MatchSuite();
        check.due("2: write(2, 3)", suite.write(2, 3), 3);
        check.due("2: write(0, 1)", suite.write(0, 1), 4);
        check.due("2: write(3, 2)", suite.write(3, 2), 6);
        check.due("2: write(1, 1)", suite.write(1, 1), 7);
        dueState("2: writing", suite, "2220331", "");
        for (int letter : NO_LETTERS) {
            check.due("2: write(" + letter + ", 1)", suite.write(letter, 1), BAD);
        }
        for (int n : new int[] {0, -1, 61, LEAST, GREATEST}) {
            check.due("2: write(1, " + n + ")", suite.write(1, n), BAD);
        }
        check.due("2: write(1, 54)", suite.write(1, 54), FULL);
        check.due("2: write(1, 60)", suite.write(1, 60), FULL);
        dueState("2: refused writes", suite, "2220331", "");
        check.due("2: write(1, 53)", suite.write(1, 53), 60);
        check.due("2: write(0, 1) at 60", suite.write(0, 1), FULL);
        dueState("2: filling it", suite, "2220331" + "1".repeat(53), "");
        check.due("2: write(3, 60) at 0", new MatchSuite().write(3, 60), 60);
    }

    private static void promise3Again() {
        MatchSuite suite = new MatchSuite();
        check.due("3: again(1, 1) of nothing", suite.again(1, 1), BAD);
        suite = Probe.suiteWith("0123", "");
        check.due("3: again(4, 2)", suite.again(4, 2), 6);
        dueState("3: again(4, 2)", suite, "012301", "");
        check.due("3: again(2, 5)", suite.again(2, 5), 11);
        dueState("3: again(2, 5), which repeats its own letters", suite, "01230101010", "");
        check.due("3: again(1, 1)", suite.again(1, 1), 12);
        dueState("3: again(1, 1)", suite, "012301010100", "");
        for (int back : new int[] {0, -1, 13, LEAST, GREATEST}) {
            check.due("3: again(" + back + ", 1)", suite.again(back, 1), BAD);
        }
        for (int n : new int[] {0, -1, 61, LEAST, GREATEST}) {
            check.due("3: again(1, " + n + ")", suite.again(1, n), BAD);
        }
        check.due("3: again(12, 49)", suite.again(12, 49), FULL);
        check.due("3: again(12, 60)", suite.again(12, 60), FULL);
        dueState("3: refused calls", suite, "012301010100", "");
        check.due("3: again(12, 48)", suite.again(12, 48), 60);
        dueState("3: again(12, 48)", suite, "012301010100".repeat(5), "");
        check.due("3: again(60, 1) at 60", suite.again(60, 1), FULL);
    }

    private static void promise4Cut() {
        MatchSuite suite = Probe.suiteWith("01230123", "12");
        check.due("4: cut(0)", suite.cut(0), 8);
        check.due("4: cut(3)", suite.cut(3), 5);
        for (int n : new int[] {-1, 61, LEAST, GREATEST}) {
            check.due("4: cut(" + n + ")", suite.cut(n), BAD);
        }
        dueState("4: cutting", suite, "01230", "12");
        check.due("4: cut(6), more than there are", suite.cut(6), 0);
        check.due("4: cut(60) of nothing", suite.cut(60), 0);
        dueState("4: cutting all", suite, "", "12");
        suite.write(3, 60);
        check.due("4: cut(59)", suite.cut(59), 1);
        check.due("4: cut(1)", suite.cut(1), 0);
        suite = Probe.suiteWith("1212", "12");
        suite.cut(1);
        check.due("4: count(0) does not see what was cut", suite.count(0), 1);
    }

    private static void promise5Change() {
        MatchSuite suite = Probe.suiteWith("0123", "3");
        check.due("5: change(0, 3)", suite.change(0, 3), 0);
        check.due("5: change(3, 0)", suite.change(3, 0), 3);
        check.due("5: change(1, 1)", suite.change(1, 1), 1);
        check.due("5: change(0, 2)", suite.change(0, 2), 3);
        dueState("5: changing", suite, "2120", "3");
        for (int i : new int[] {-1, 4, 60, LEAST, GREATEST}) {
            check.due("5: change(" + i + ", 1)", suite.change(i, 1), BAD);
        }
        for (int letter : NO_LETTERS) {
            check.due("5: change(1, " + letter + ")", suite.change(1, letter), BAD);
        }
        dueState("5: refused changes", suite, "2120", "3");
        suite.cut(1);
        check.due("5: change(3, 1) of what was cut", suite.change(3, 1), BAD);
        check.due("5: change(0, 0) of nothing", new MatchSuite().change(0, 0), BAD);
    }

    private static void promise6Extend() {
        MatchSuite suite = new MatchSuite();
        for (int j = 0; j < 12; j++) {
            for (int letter : NO_LETTERS) {
                check.due("6: extend(" + letter + ")", suite.extend(letter), BAD);
            }
            check.due("6: extend(" + j % 4 + ")", suite.extend(j % 4), j + 1);
        }
        check.due("6: extend(0) of twelve", suite.extend(0), FULL);
        check.due("6: extend(3) of twelve", suite.extend(3), FULL);
        dueState("6: extending", suite, "", TWELVE);
    }

    private static void promise7Shorten() {
        MatchSuite suite = Probe.suiteWith("33", "2013");
        check.due("7: first shorten()", suite.shorten(), 3);
        check.due("7: second shorten()", suite.shorten(), 1);
        dueState("7: shortening", suite, "33", "20");
        check.due("7: third shorten()", suite.shorten(), 0);
        check.due("7: fourth shorten()", suite.shorten(), 2);
        check.due("7: shorten() of nothing", suite.shorten(), BAD);
        check.due("7: shorten() of nothing again", suite.shorten(), BAD);
        check.due("7: extend(1) thereafter", suite.extend(1), 1);
        dueState("7: shortening all", suite, "33", "1");
    }

    private static void promise8Copy() {
        String text = TWELVE + "00";
        MatchSuite suite = Probe.suiteWith(text, "33");
        check.due("8: copy(1, 3)", suite.copy(1, 3), true);
        dueState("8: copy(1, 3)", suite, text, "123");
        check.due("8: copy(2, 12)", suite.copy(2, 12), true);
        dueState("8: copy(2, 12)", suite, text, "230123012300");
        check.due("8: copy(13, 1)", suite.copy(13, 1), true);
        dueState("8: copy(13, 1)", suite, text, "0");
        for (int n : new int[] {-1, 13, LEAST, GREATEST}) {
            check.due("8: copy(0, " + n + ")", suite.copy(0, n), false);
            check.due("8: copy(14, " + n + ")", suite.copy(14, n), false);
            check.due("8: copy(GREATEST, " + n + ")", suite.copy(GREATEST, n), false);
        }
        for (int i : new int[] {-1, -2, 3, 14, 15, LEAST, GREATEST, GREATEST - 11}) {
            check.due("8: copy(" + i + ", 12)", suite.copy(i, 12), false);
        }
        check.due("8: copy(14, 1)", suite.copy(14, 1), false);
        check.due("8: copy(-1, 1)", suite.copy(-1, 1), false);
        dueState("8: refused copies", suite, text, "0");
        check.due("8: copy(5, 0)", suite.copy(5, 0), true);
        dueState("8: copy(5, 0)", suite, text, "");
        suite.copy(0, 2);
        suite.change(0, 3);
        dueState("8: a change of the text, which leaves the pattern", suite, "3" + text.substring(1), "01");
    }

    private static void promise9Count(int engine) {
        String call = "9: count(" + engine + ")";
        check.due(call + ", overlapping", Probe.suiteWith("00000", "00").count(engine), 4);
        check.due(call + ", at both ends", Probe.suiteWith("0123301", "01").count(engine), 2);
        check.due(call + ", whole text", Probe.suiteWith(TWELVE, TWELVE).count(engine), 1);
        check.due(call + ", none", Probe.suiteWith("0120120", "3").count(engine), 0);
        check.due(call + ", pattern longer than text", Probe.suiteWith("01", "010").count(engine), 0);
        check.due(call + ", no text", Probe.suiteWith("", "0").count(engine), 0);
        check.due(call + ", nothing", Probe.suiteWith("", "").count(engine), 1);
        check.due(call + ", empty pattern", Probe.suiteWith("012", "").count(engine), 4);
        check.due(call + ", empty pattern, full text", Probe.suiteWith("0".repeat(60), "").count(engine), 61);
        check.due(call + ", full text", Probe.suiteWith("0".repeat(60), "0").count(engine), 60);
        check.due(call + ", both full", Probe.suiteWith(TWELVE.repeat(5), TWELVE).count(engine), 13);
        MatchSuite suite = Probe.suiteWith("01010101", "0101");
        check.due(call + " before changes", suite.count(engine), 3);
        suite.change(4, 2);
        check.due(call + " after change(4, 2)", suite.count(engine), 1);
        suite.shorten();
        suite.shorten();
        check.due(call + " after shorten() twice", suite.count(engine), 3);
        suite.cut(1);
        check.due(call + " after cut(1)", suite.count(engine), 2);
        suite.extend(2);
        check.due(call + " after extend(2)", suite.count(engine), 1);
        suite.copy(3, 2);
        check.due(call + " after copy(3, 2)", suite.count(engine), 1);
    }

    private static void promise10Next(int engine) {
        String call = "10: next(" + engine + ", ";
        MatchSuite suite = Probe.suiteWith("30030300", "30");
        int[] from = {LEAST, -1, 0, 1, 3, 4, 5, 6, 8, 60, 61, 64, GREATEST};
        int[] want = {0, 0, 0, 3, 3, 5, 5, BAD, BAD, BAD, BAD, BAD, BAD};
        for (int k = 0; k < from.length; k++) {
            check.due(call + from[k] + ")", suite.next(engine, from[k]), want[k]);
        }
        suite = Probe.suiteWith("0".repeat(60), "");
        check.due(call + "60), empty pattern", suite.next(engine, 60), 60);
        check.due(call + "61), empty pattern", suite.next(engine, 61), BAD);
        check.due(call + "64), empty pattern", suite.next(engine, 64), BAD);
        check.due(call + "0), none", Probe.suiteWith("012", "3").next(engine, 0), BAD);
    }

    private static void promise11Last(int engine) {
        String call = "11: last(" + engine + ", ";
        MatchSuite suite = Probe.suiteWith("13003030", "30");
        int[] to = {LEAST, -64, -1, 0, 1, 3, 4, 5, 6, 7, 60, 64, GREATEST};
        int[] want = {BAD, BAD, BAD, BAD, 1, 1, 4, 4, 6, 6, 6, 6, 6};
        for (int k = 0; k < to.length; k++) {
            check.due(call + to[k] + ")", suite.last(engine, to[k]), want[k]);
        }
        suite = Probe.suiteWith("0".repeat(60), "");
        check.due(call + "GREATEST), empty pattern", suite.last(engine, GREATEST), 60);
        check.due(call + "59), empty pattern", suite.last(engine, 59), 59);
        check.due(call + "0), empty pattern", suite.last(engine, 0), 0);
        check.due(call + "9), none", Probe.suiteWith("012", "3").last(engine, 9), BAD);
    }

    private static void promise12Kth(int engine) {
        String call = "12: kth(" + engine + ", ";
        MatchSuite suite = Probe.suiteWith("13003030", "30");
        int[] k = {LEAST, -1, 0, 1, 2, 3, 4, 64, GREATEST};
        int[] want = {BAD, BAD, 1, 4, 6, BAD, BAD, BAD, BAD};
        for (int row = 0; row < k.length; row++) {
            check.due(call + k[row] + ")", suite.kth(engine, k[row]), want[row]);
        }
        suite = Probe.suiteWith("0".repeat(60), "");
        check.due(call + "60), empty pattern", suite.kth(engine, 60), 60);
        check.due(call + "61), empty pattern", suite.kth(engine, 61), BAD);
        check.due(call + "0), none", Probe.suiteWith("012", "3").kth(engine, 0), BAD);
    }

    private static void promise13Apart(int engine) {
        String call = "13: apart(" + engine + ")";
        check.due(call + ", touching", Probe.suiteWith("010101", "01").apart(engine), 3);
        check.due(call + ", overlapping", Probe.suiteWith("00000", "00").apart(engine), 2);
        check.due(call + ", a chain", Probe.suiteWith("0101010", "010").apart(engine), 2);
        check.due(call + ", one letter", Probe.suiteWith("0010", "0").apart(engine), 3);
        check.due(call + ", none", Probe.suiteWith("0010", "3").apart(engine), 0);
        check.due(call + ", pattern longer than text", Probe.suiteWith("00", "000").apart(engine), 0);
        check.due(call + ", empty pattern", Probe.suiteWith("0010", "").apart(engine), 5);
        check.due(call + ", nothing", Probe.suiteWith("", "").apart(engine), 1);
        check.due(call + ", full", Probe.suiteWith("3".repeat(60), "3".repeat(12)).apart(engine), 5);
        check.due(call + ", empty pattern, full text", Probe.suiteWith("3".repeat(60), "").apart(engine), 61);
    }

    private static void promise14Agree(int engine) {
        String[] texts = {"", "0", "00100100", "01".repeat(30), TWELVE.repeat(5)};
        String[] patterns = {"", "0", "001", "0101", TWELVE, "3"};
        for (String text : texts) {
            for (String pattern : patterns) {
                MatchSuite suite = Probe.suiteWith(text, pattern);
                for (int other = 0; other <= 9; other++) {
                    check.due("14: agree(" + engine + ", " + other + ")", suite.agree(engine, other), true);
                }
            }
        }
        for (int other : NO_ENGINES) {
            MatchSuite suite = Probe.suiteWith("0101", "01");
            check.due("14: agree(" + engine + ", " + other + ")", suite.agree(engine, other), false);
            check.due("14: agree(" + other + ", " + engine + ")", suite.agree(other, engine), false);
            check.due("14: agree(" + other + ", " + other + ")", suite.agree(other, other), false);
        }
    }

    private static void noSuchEngine() {
        for (int engine : NO_ENGINES) {
            for (String pattern : new String[] {"", "01", "0101010"}) {
                MatchSuite suite = Probe.suiteWith("01010", pattern);
                check.due("9: count(" + engine + ")", suite.count(engine), BAD);
                check.due("10: next(" + engine + ", 0)", suite.next(engine, 0), BAD);
                check.due("11: last(" + engine + ", 9)", suite.last(engine, 9), BAD);
                check.due("12: kth(" + engine + ", 0)", suite.kth(engine, 0), BAD);
                check.due("13: apart(" + engine + ")", suite.apart(engine), BAD);
                check.due("14: agree(" + engine + ", 0)", suite.agree(engine, 0), false);
            }
        }
    }

    private static void promise15Border() {
        String[] patterns = {"", "0", "00", "01", "010", "0101", "00100", "0010001", "012012012012", "000000000000",
            "000000000001", "010010100100", TWELVE};
        int[] want = {BAD, 0, 1, 0, 1, 2, 2, 3, 9, 11, 0, 4, 8};
        for (int row = 0; row < patterns.length; row++) {
            MatchSuite suite = Probe.suiteWith("3", patterns[row]);
            check.due("15: border() of '" + patterns[row] + "'", suite.border(), want[row]);
        }
        MatchSuite suite = Probe.suiteWith("", "01010");
        check.due("15: border() before shorten()", suite.border(), 3);
        suite.shorten();
        check.due("15: border() after shorten()", suite.border(), 2);
        suite.extend(1);
        check.due("15: border() after extend(1)", suite.border(), 0);
    }

    private static void promise16Shared() {
        MatchSuite suite = Probe.suiteWith("0120130", "0123");
        int[] i = {LEAST, -1, 0, 1, 3, 6, 7, 8, 60, GREATEST};
        int[] want = {BAD, BAD, 3, 0, 2, 1, 0, BAD, BAD, BAD};
        for (int row = 0; row < i.length; row++) {
            check.due("16: shared(" + i[row] + ")", suite.shared(i[row]), want[row]);
        }
        suite.copy(0, 0);
        check.due("16: shared(0), empty pattern", suite.shared(0), 0);
        suite.copy(3, 3);
        check.due("16: shared(3), the whole pattern", suite.shared(3), 3);
        suite.cut(3);
        check.due("16: shared(3) does not see what was cut", suite.shared(3), 1);
        check.due("16: shared(4) at the end", suite.shared(4), 0);
        suite = Probe.suiteWith("2".repeat(60), "2".repeat(12));
        check.due("16: shared(48)", suite.shared(48), 12);
        check.due("16: shared(50)", suite.shared(50), 10);
        check.due("16: shared(60)", suite.shared(60), 0);
        check.due("16: shared(61)", suite.shared(61), BAD);
        check.due("16: shared(0) of nothing", new MatchSuite().shared(0), 0);
    }

    private static void promise17Near() {
        MatchSuite suite = Probe.suiteWith("00010011", "0000");
        int[] want = {0, 3, 5, 5};
        for (int e = 0; e <= 3; e++) {
            check.due("17: near(" + e + ")", suite.near(e), want[e]);
        }
        for (int e : new int[] {-1, 4, LEAST, GREATEST}) {
            check.due("17: near(" + e + ")", suite.near(e), BAD);
        }
        suite = Probe.suiteWith("0123", "333");
        check.due("17: near(1) of other letters", suite.near(1), 0);
        check.due("17: near(2) of other letters", suite.near(2), 1);
        check.due("17: near(3) of as many letters", suite.near(3), 2);
        check.due("17: near(3), pattern longer than text", Probe.suiteWith("01", "012").near(3), 0);
        check.due("17: near(0), empty pattern", Probe.suiteWith("012", "").near(0), 4);
        check.due("17: near(3), empty pattern", Probe.suiteWith("012", "").near(3), 4);
        check.due("17: near(0) of nothing", new MatchSuite().near(0), 1);
        check.due("17: near(0) is count", Probe.suiteWith("00000", "00").near(0), 4);
    }

    private static void promise18Order() {
        MatchSuite suite = Probe.suiteWith("0".repeat(60), TWELVE);
        check.due("18: extend(4) of twelve", suite.extend(4), BAD);
        check.due("18: extend(-1) of twelve", suite.extend(-1), BAD);
        check.due("18: extend(0) of twelve", suite.extend(0), FULL);
        check.due("18: write(4, 1) at 60", suite.write(4, 1), BAD);
        check.due("18: write(0, 0) at 60", suite.write(0, 0), BAD);
        check.due("18: write(0, 61) at 60", suite.write(0, 61), BAD);
        check.due("18: again(0, 1) at 60", suite.again(0, 1), BAD);
        check.due("18: again(61, 1) at 60", suite.again(61, 1), BAD);
        check.due("18: again(1, 0) at 60", suite.again(1, 0), BAD);
        check.due("18: again(1, 61) at 60", suite.again(1, 61), BAD);
        check.due("18: again(1, 1) at 60", suite.again(1, 1), FULL);
        suite = Probe.suiteWith("012", "3");
        for (int i : new int[] {-1, 4, LEAST, GREATEST}) {
            check.due("18: copy(" + i + ", 0)", suite.copy(i, 0), false);
        }
        dueState("18: copy of nothing from no place", suite, "012", "3");
        check.due("18: copy(3, 0)", suite.copy(3, 0), true);
        dueState("18: copy(3, 0)", suite, "012", "");
        check.due("18: copy(0, 0)", suite.copy(0, 0), true);
        check.due("18: copy(0, 0) of nothing", new MatchSuite().copy(0, 0), true);
        check.due("18: copy(1, 0) of nothing", new MatchSuite().copy(1, 0), false);
    }

    private static void promise18RefusedCallsChangeNothing() {
        for (int refusal = 0; refusal < 20; refusal++) {
            String text = TWELVE.repeat(5).substring(0, 59);
            MatchSuite suite = Probe.suiteWith(text, TWELVE);
            check.due("18: refusal " + refusal, refuse(suite, refusal), true);
            dueState("18: refusal " + refusal, suite, text, TWELVE);
        }
        MatchSuite empty = new MatchSuite();
        check.due("18: shorten() of nothing", empty.shorten(), BAD);
        check.due("18: border() of nothing", empty.border(), BAD);
        check.due("18: again(1, 1) of nothing", empty.again(1, 1), BAD);
        dueState("18: refusals of an empty object", empty, "", "");
    }

    private static boolean refuse(MatchSuite suite, int refusal) {
        switch (refusal) {
            case 0: return suite.write(4, 1) == BAD;
            case 1: return suite.write(2, 0) == BAD;
            case 2: return suite.write(2, 2) == FULL;
            case 3: return suite.again(60, 1) == BAD;
            case 4: return suite.again(1, 61) == BAD;
            case 5: return suite.again(1, 2) == FULL;
            case 6: return suite.cut(61) == BAD;
            case 7: return suite.cut(-1) == BAD;
            case 8: return suite.change(59, 1) == BAD;
            case 9: return suite.change(0, 4) == BAD;
            case 10: return suite.extend(4) == BAD;
            case 11: return suite.extend(1) == FULL;
            case 12: return !suite.copy(1, 13);
            case 13: return !suite.copy(48, 12);
            case 14: return !suite.copy(60, 0);
            case 15: return suite.count(10) == BAD;
            case 16: return suite.next(0, 49) == BAD;
            case 17: return suite.last(0, -1) == BAD;
            case 18: return suite.kth(0, 13) == BAD;
            default: return suite.shared(60) == BAD && suite.near(4) == BAD && !suite.agree(0, 10);
        }
    }
}
