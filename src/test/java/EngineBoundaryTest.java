/** The boundary cases of the promises 9 to 14: the calls that take an engine, for each of the ten. */
public final class EngineBoundaryTest {
    private static final int BAD = -1;
    private static final int LEAST = Integer.MIN_VALUE;
    private static final int GREATEST = Integer.MAX_VALUE;
    private static final String TWELVE = "012301230123";
    private static final String SIXTY = TWELVE.repeat(5);
    private static final String ALIKE = "2".repeat(60);

    private static final Sentences sentences = new Sentences();

    public static void main(String[] args) {
        countTests();
        nextTests();
        lastTests();
        kthTests();
        apartTests();
        agreeTests();
        sentences.end();
    }

    private static void countTests() {
        sentences.testEngines("Promise 9", "The number of occurrences", EngineBoundaryTest::countFewestAndMost);
        sentences.test("Promise 9", "BAD when there is no such engine", () -> dueBad("count(", ")"));
    }

    private static void nextTests() {
        sentences.testEngines("Promise 10", "The least occurrence from a place on", EngineBoundaryTest::nextAtPlaces);
        sentences.testEngines("Promise 10", "which may be any int", EngineBoundaryTest::nextFromAnyInt);
        sentences.testEngines("Promise 10", "BAD when there is none", EngineBoundaryTest::nextOfNone);
        sentences.test("Promise 10", "BAD when there is no such engine", () -> dueBad("next(", ", 0)"));
    }

    private static void lastTests() {
        sentences.testEngines("Promise 11", "The greatest occurrence up to a place", EngineBoundaryTest::lastAtPlaces);
        sentences.testEngines("Promise 11", "which may be any int", EngineBoundaryTest::lastToAnyInt);
        sentences.testEngines("Promise 11", "BAD when there is none", EngineBoundaryTest::lastOfNone);
        sentences.test("Promise 11", "BAD when there is no such engine", () -> dueBad("last(", ", 60)"));
    }

    private static void kthTests() {
        sentences.testEngines("Promise 12", "Occurrence k (0 the least)", EngineBoundaryTest::kthLeastAndGreatest);
        sentences.testEngines("Promise 12", "BAD when there is none", EngineBoundaryTest::kthOfNone);
        sentences.test("Promise 12", "BAD when there is no such engine", () -> dueBad("kth(", ", 0)"));
    }

    private static void apartTests() {
        sentences.testEngines("Promise 13", "The greatest number", EngineBoundaryTest::apartFewestAndMost);
        sentences.testEngines("Promise 13", "differences are all at least the length of the pattern",
            EngineBoundaryTest::apartByLength);
        sentences.testEngines("Promise 13", "and at least 1", EngineBoundaryTest::apartByOne);
        sentences.test("Promise 13", "BAD when there is no such engine", () -> dueBad("apart(", ")"));
    }

    private static void agreeTests() {
        sentences.testEngines("Promise 14", "the occurrences that two engines find are the same",
            EngineBoundaryTest::agreeAtEnds);
        sentences.testEngines("Promise 14", "false when one of them is none", EngineBoundaryTest::agreeWithNone);
        sentences.test("Promise 14", "false when both of them are none", EngineBoundaryTest::agreeOfNone);
    }

    /** In every kind of state, as those that need no engine could be answered before the engine is looked at. */
    private static void dueBad(String before, String after) {
        for (int engine : Sentences.outside(0, 9)) {
            String call = before + engine + after;
            sentences.run().due(call, BAD);
            sentences.run("010", "").due(call, BAD);
            sentences.run("", "0").due(call, BAD);
            sentences.run("010", "0").due(call, BAD);
            sentences.run("010", "3").due(call, BAD);
            sentences.run("010", "0101").due(call, BAD).holds("010", "0101");
            sentences.run(SIXTY, TWELVE).due(call, BAD).holds(SIXTY, TWELVE);
        }
    }

    private static void countFewestAndMost(int engine) {
        String count = "count(" + engine + ")";
        sentences.run("", "2").due(count, 0);
        sentences.run("2", "22").due(count, 0);
        sentences.run(SIXTY, "000").due(count, 0);
        sentences.run("", "").due(count, 1);
        sentences.run("2", "2").due(count, 1);
        sentences.run(ALIKE, "").due(count, 61);
        sentences.run(ALIKE, "2").due(count, 60);
        sentences.run(ALIKE, "22").due(count, 59);
        sentences.run(ALIKE, "2".repeat(12)).due(count, 49);
        sentences.run(SIXTY, TWELVE).due(count, 13);
        sentences.run("1" + "0".repeat(58) + "1", "1").due(count, 2);
    }

    private static void nextAtPlaces(int engine) {
        Run run = sentences.run("30030300", "30");
        int[] want = {0, 3, 3, 3, 5, 5, BAD, BAD, BAD};
        for (int from = 0; from < want.length; from++) {
            run.due("next(" + engine + ", " + from + ")", want[from]);
        }
        sentences.run("0".repeat(59) + "1", "1").due("next(" + engine + ", 0)", 59)
            .due("next(" + engine + ", 59)", 59).due("next(" + engine + ", 60)", BAD);
        sentences.run(ALIKE, "2".repeat(12)).due("next(" + engine + ", 48)", 48).due("next(" + engine + ", 49)", BAD);
        sentences.run(ALIKE, "").due("next(" + engine + ", 60)", 60).due("next(" + engine + ", 61)", BAD);
    }

    private static void nextFromAnyInt(int engine) {
        for (int from : new int[] {LEAST, LEAST + 1, LEAST + 64, -65536, -256, -64, -61, -60, -2, -1}) {
            sentences.run("0310", "1").due("next(" + engine + ", " + from + ")", 2);
            sentences.run(ALIKE, "").due("next(" + engine + ", " + from + ")", 0);
        }
        for (int from : new int[] {61, 62, 63, 64, 65, 128, 256, 65536, GREATEST - 63, GREATEST - 1, GREATEST}) {
            sentences.run("0310", "0").due("next(" + engine + ", " + from + ")", BAD);
            sentences.run(ALIKE, "").due("next(" + engine + ", " + from + ")", BAD);
        }
    }

    private static void nextOfNone(int engine) {
        for (int from : new int[] {LEAST, -1, 0, 1, 60, GREATEST}) {
            sentences.run("012", "3").due("next(" + engine + ", " + from + ")", BAD).holds("012", "3");
            sentences.run("012", "0123").due("next(" + engine + ", " + from + ")", BAD);
            sentences.run("", "0").due("next(" + engine + ", " + from + ")", BAD);
        }
    }

    private static void lastAtPlaces(int engine) {
        Run run = sentences.run("13003030", "30");
        int[] want = {BAD, 1, 1, 1, 4, 4, 6, 6, 6};
        for (int to = 0; to < want.length; to++) {
            run.due("last(" + engine + ", " + to + ")", want[to]);
        }
        sentences.run("1" + "0".repeat(59), "1").due("last(" + engine + ", 60)", 0).due("last(" + engine + ", 0)", 0)
            .due("last(" + engine + ", -1)", BAD);
        sentences.run(ALIKE, "2".repeat(12)).due("last(" + engine + ", 47)", 47).due("last(" + engine + ", 48)", 48)
            .due("last(" + engine + ", 49)", 48);
        sentences.run(ALIKE, "").due("last(" + engine + ", 59)", 59).due("last(" + engine + ", 60)", 60)
            .due("last(" + engine + ", 61)", 60);
    }

    private static void lastToAnyInt(int engine) {
        for (int to : new int[] {61, 62, 63, 64, 65, 128, 256, 65536, GREATEST - 63, GREATEST - 1, GREATEST}) {
            sentences.run("0310", "1").due("last(" + engine + ", " + to + ")", 2);
            sentences.run(ALIKE, "").due("last(" + engine + ", " + to + ")", 60);
        }
        for (int to : new int[] {LEAST, LEAST + 1, LEAST + 64, -65536, -256, -64, -61, -60, -2, -1}) {
            sentences.run("0310", "0").due("last(" + engine + ", " + to + ")", BAD);
            sentences.run(ALIKE, "").due("last(" + engine + ", " + to + ")", BAD);
        }
    }

    private static void lastOfNone(int engine) {
        for (int to : new int[] {LEAST, -1, 0, 1, 60, GREATEST}) {
            sentences.run("012", "3").due("last(" + engine + ", " + to + ")", BAD).holds("012", "3");
            sentences.run("012", "0123").due("last(" + engine + ", " + to + ")", BAD);
            sentences.run("", "0").due("last(" + engine + ", " + to + ")", BAD);
        }
        sentences.run("0013", "13").due("last(" + engine + ", 1)", BAD).due("last(" + engine + ", 2)", 2);
    }

    private static void kthLeastAndGreatest(int engine) {
        sentences.run("13003030", "30").due("kth(" + engine + ", 0)", 1).due("kth(" + engine + ", 1)", 4)
            .due("kth(" + engine + ", 2)", 6);
        sentences.run(ALIKE, "").due("kth(" + engine + ", 0)", 0).due("kth(" + engine + ", 60)", 60);
        sentences.run(ALIKE, "2").due("kth(" + engine + ", 0)", 0).due("kth(" + engine + ", 59)", 59);
        sentences.run(SIXTY, TWELVE).due("kth(" + engine + ", 0)", 0).due("kth(" + engine + ", 12)", 48);
        sentences.run("", "").due("kth(" + engine + ", 0)", 0);
    }

    private static void kthOfNone(int engine) {
        for (int k : Sentences.outside(0, 2)) {
            sentences.run("13003030", "30").due("kth(" + engine + ", " + k + ")", BAD).holds("13003030", "30");
        }
        for (int k : new int[] {LEAST, -1, 0, 1, GREATEST}) {
            sentences.run("012", "3").due("kth(" + engine + ", " + k + ")", BAD);
            sentences.run("012", "0123").due("kth(" + engine + ", " + k + ")", BAD);
            sentences.run("", "0").due("kth(" + engine + ", " + k + ")", BAD);
        }
        sentences.run(ALIKE, "").due("kth(" + engine + ", 61)", BAD).due("kth(" + engine + ", -1)", BAD);
        sentences.run(ALIKE, "2").due("kth(" + engine + ", 60)", BAD);
        sentences.run("", "").due("kth(" + engine + ", 1)", BAD);
    }

    private static void apartFewestAndMost(int engine) {
        String apart = "apart(" + engine + ")";
        sentences.run("", "2").due(apart, 0);
        sentences.run("2", "22").due(apart, 0);
        sentences.run(SIXTY, "000").due(apart, 0);
        sentences.run("2", "2").due(apart, 1);
        sentences.run(ALIKE, "2").due(apart, 60);
        // Of the places 0, 2 and 4, the one in the middle would leave no other.
        sentences.run("0101010", "010").due(apart, 2);
        sentences.run("01010010010", "010").due(apart, 3);
    }

    private static void apartByLength(int engine) {
        String apart = "apart(" + engine + ")";
        for (int n = 1; n <= 12; n++) {
            String word = "2".repeat(n);
            sentences.run("2".repeat(2 * n), word).due(apart, 2);
            sentences.run("2".repeat(2 * n - 1), word).due(apart, 1);
            sentences.run(ALIKE, word).due(apart, 60 / n);
        }
        sentences.run("010010", "010").due(apart, 2);
        sentences.run("01010", "010").due(apart, 1);
        sentences.run(SIXTY, TWELVE).due(apart, 5);
        sentences.run(SIXTY, TWELVE).due("cut(1)", 59).due(apart, 4);
    }

    private static void apartByOne(int engine) {
        String apart = "apart(" + engine + ")";
        sentences.run("", "").due(apart, 1);
        sentences.run("0", "").due(apart, 2);
        sentences.run("01230", "").due(apart, 6);
        sentences.run(ALIKE, "").due(apart, 61);
        sentences.run("0010", "0").due(apart, 3);
    }

    private static void agreeAtEnds(int engine) {
        String[][] states = {{"", ""}, {"", "0"}, {"0", ""}, {"0", "0"}, {"0", "00"}, {ALIKE, ""}, {ALIKE, "2"},
            {ALIKE, "3"}, {SIXTY, TWELVE}, {TWELVE, TWELVE}, {ALIKE, "2".repeat(12)}};
        for (String[] state : states) {
            Run run = sentences.run(state[0], state[1]);
            for (int other = 0; other <= 9; other++) {
                run.due("agree(" + engine + ", " + other + ")", true);
            }
        }
    }

    private static void agreeWithNone(int engine) {
        for (int none : Sentences.outside(0, 9)) {
            for (String pattern : new String[] {"", "01", "3", TWELVE}) {
                sentences.run("0101", pattern).due("agree(" + engine + ", " + none + ")", false)
                    .due("agree(" + none + ", " + engine + ")", false).holds("0101", pattern);
            }
        }
    }

    private static void agreeOfNone() {
        for (int none : Sentences.outside(0, 9)) {
            for (String pattern : new String[] {"", "01", "3", TWELVE}) {
                sentences.run("0101", pattern).due("agree(" + none + ", " + none + ")", false)
                    .due("agree(10, " + none + ")", false).due("agree(" + none + ", -1)", false);
            }
        }
    }
}
