/** Long runs of mixed calls, right and wrong ones, each answer compared with the model's. */
public final class RunsTest {
    private static final int RUNS = 4000;
    // With the reading of the state at the end, a run stays within the 512 calls of an object.
    private static final int CALLS = 360;
    private static final int[] STRANGE = {
        Integer.MIN_VALUE, Integer.MIN_VALUE + 1, -61, -2, -1, 13, 59, 60, 61, 62, 64,
        Integer.MAX_VALUE - 12, Integer.MAX_VALUE - 1, Integer.MAX_VALUE};

    private static final Check check = new Check();
    // A generator of its own, so that every run of the test makes the same calls.
    private static long seed = 20261115L;

    private final MatchSuite suite = new MatchSuite();
    private final Model model = new Model();
    private final int letters;
    private final String name;

    private RunsTest(int run) {
        letters = 1 + run % 4;
        name = "run " + run;
    }

    public static void main(String[] args) {
        for (int run = 0; run < RUNS; run++) {
            RunsTest test = new RunsTest(run);
            for (int call = 0; call < CALLS; call++) {
                test.callOnce(call);
            }
            test.compareState();
        }
        check.end();
    }

    private static int below(int bound) {
        seed = seed * 6364136223846793005L + 1442695040888963407L;
        return (int) ((seed >>> 33) % bound);
    }

    /** Mostly from 0 to usual - 1, now and then one that is far out. */
    private static int number(int usual) {
        return below(16) == 0 ? STRANGE[below(STRANGE.length)] : below(usual);
    }

    private int letter() {
        return below(20) == 0 ? number(6) : below(letters);
    }

    private void compareState() {
        check.due("the text of " + name, Probe.textOf(suite), model.text);
        check.due("the pattern of " + name, Probe.patternOf(suite), model.pattern);
    }

    private void callOnce(int call) {
        String at = " (" + name + ", call " + call + ", text '" + model.text + "', pattern '" + model.pattern + "')";
        if (below(3) == 0) {
            changeOnce(at);
        } else {
            askOnce(at);
        }
    }

    private void changeOnce(String at) {
        int a;
        int b;
        switch (below(10)) {
            case 0: case 1:
                a = letter();
                b = number(8);
                check.due("write(" + a + ", " + b + ")" + at, suite.write(a, b), model.write(a, b));
                break;
            case 2: case 3:
                a = number(10);
                b = number(30);
                check.due("again(" + a + ", " + b + ")" + at, suite.again(a, b), model.again(a, b));
                break;
            case 4:
                a = number(20);
                check.due("cut(" + a + ")" + at, suite.cut(a), model.cut(a));
                break;
            case 5:
                a = number(61);
                b = letter();
                check.due("change(" + a + ", " + b + ")" + at, suite.change(a, b), model.change(a, b));
                break;
            case 6: case 7:
                a = letter();
                check.due("extend(" + a + ")" + at, suite.extend(a), model.extend(a));
                break;
            case 8:
                check.due("shorten()" + at, suite.shorten(), model.shorten());
                break;
            default:
                a = number(61);
                b = number(14);
                check.due("copy(" + a + ", " + b + ")" + at, suite.copy(a, b), model.copy(a, b));
                break;
        }
    }

    private void askOnce(String at) {
        int a = below(20) == 0 ? number(12) : below(10);
        int b;
        switch (below(9)) {
            case 0:
                check.due("count(" + a + ")" + at, suite.count(a), model.count(a));
                break;
            case 1:
                b = number(62);
                check.due("next(" + a + ", " + b + ")" + at, suite.next(a, b), model.next(a, b));
                break;
            case 2:
                b = number(62);
                check.due("last(" + a + ", " + b + ")" + at, suite.last(a, b), model.last(a, b));
                break;
            case 3:
                b = number(10);
                check.due("kth(" + a + ", " + b + ")" + at, suite.kth(a, b), model.kth(a, b));
                break;
            case 4:
                check.due("apart(" + a + ")" + at, suite.apart(a), model.apart(a));
                break;
            case 5:
                b = number(11);
                check.due("agree(" + a + ", " + b + ")" + at, suite.agree(a, b), model.agree(a, b));
                break;
            case 6:
                check.due("border()" + at, suite.border(), model.border());
                break;
            case 7:
                a = number(62);
                check.due("shared(" + a + ")" + at, suite.shared(a), model.shared(a));
                break;
            default:
                a = number(5);
                check.due("near(" + a + ")" + at, suite.near(a), model.near(a));
                break;
        }
    }
}
