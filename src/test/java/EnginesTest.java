import java.util.ArrayList;
import java.util.List;

/** Every engine on every short text and pattern of two letters, and on long ones that repeat themselves. */
public final class EnginesTest {
    private static final int TEXT_LENGTH = 8;
    private static final int PATTERN_LENGTH = 5;

    private static final Check check = new Check();

    public static void main(String[] args) {
        List<String> patterns = wordsUpTo(PATTERN_LENGTH);
        for (String text : wordsUpTo(TEXT_LENGTH)) {
            for (String pattern : patterns) {
                testAllEngines(text, pattern);
            }
        }
        testLongTexts();
        check.end();
    }

    private static List<String> wordsUpTo(int length) {
        List<String> words = new ArrayList<>();
        words.add("");
        for (int i = 0; words.get(i).length() < length; i++) {
            words.add(words.get(i) + "1");
            words.add(words.get(i) + "2");
        }
        return words;
    }

    private static void testAllEngines(String text, String pattern) {
        MatchSuite suite = Probe.suiteWith(text, pattern);
        Model model = new Model();
        model.text = text;
        model.pattern = pattern;
        List<Integer> places = model.occurrences();
        int apart = model.apart(0);
        String at = " with text '" + text + "' and pattern '" + pattern + "'";
        for (int engine = 0; engine <= 9; engine++) {
            check.due("count(" + engine + ")" + at, suite.count(engine), places.size());
            check.due("apart(" + engine + ")" + at, suite.apart(engine), apart);
            check.due("agree(" + engine + ", 0)" + at, suite.agree(engine, 0), true);
            check.due("kth(" + engine + ", -1)" + at, suite.kth(engine, -1), -1);
            check.due("kth(" + engine + ", size)" + at, suite.kth(engine, places.size()), -1);
            for (int k = 0; k < places.size(); k++) {
                check.due("kth(" + engine + ", " + k + ")" + at, suite.kth(engine, k), places.get(k));
            }
            for (int i = -1; i <= text.length() + 1; i++) {
                check.due("next(" + engine + ", " + i + ")" + at, suite.next(engine, i), model.next(0, i));
                check.due("last(" + engine + ", " + i + ")" + at, suite.last(engine, i), model.last(0, i));
            }
        }
    }

    private static void testLongTexts() {
        String[] units = {"0", "01", "001", "0110", "0123", "00010", "0102010", "012301230", "0000000000001"};
        for (String unit : units) {
            for (int length = 48; length <= 60; length++) {
                String text = unit.repeat(60).substring(0, length);
                for (int n = 0; n <= 12; n++) {
                    testPlacesOnly(text, text.substring(0, n));
                    testPlacesOnly(text, text.substring(length - n));
                    if (n > 0) {
                        testPlacesOnly(text, text.substring(0, n - 1) + "3");
                        testPlacesOnly(text, "3" + text.substring(1, n));
                    }
                }
            }
        }
    }

    /** Fewer calls than above, as an object is good for 512. */
    private static void testPlacesOnly(String text, String pattern) {
        Model model = new Model();
        model.text = text;
        model.pattern = pattern;
        List<Integer> places = model.occurrences();
        int apart = model.apart(0);
        for (int engine = 0; engine <= 9; engine++) {
            MatchSuite suite = Probe.suiteWith(text, pattern);
            String at = " with text '" + text + "' and pattern '" + pattern + "'";
            check.due("count(" + engine + ")" + at, suite.count(engine), places.size());
            check.due("apart(" + engine + ")" + at, suite.apart(engine), apart);
            for (int k = 0; k < places.size(); k++) {
                check.due("kth(" + engine + ", " + k + ")" + at, suite.kth(engine, k), places.get(k));
            }
            for (int other = 0; other <= 9; other++) {
                check.due("agree(" + engine + ", " + other + ")" + at, suite.agree(engine, other), true);
            }
        }
    }
}
