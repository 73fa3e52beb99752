/** Reads the state of a MatchSuite through its calls, and leaves it as it was. */
final class Probe {
    private Probe() {
    }

    static String textOf(MatchSuite suite) {
        int length = suite.cut(0);
        StringBuilder text = new StringBuilder();
        for (int i = 0; i < length; i++) {
            int letter = suite.change(i, 0);
            suite.change(i, letter);
            text.append(letter);
        }
        return text.toString();
    }

    static String patternOf(MatchSuite suite) {
        StringBuilder pattern = new StringBuilder();
        for (int letter = suite.shorten(); letter >= 0; letter = suite.shorten()) {
            pattern.insert(0, letter);
        }
        for (int j = 0; j < pattern.length(); j++) {
            suite.extend(pattern.charAt(j) - '0');
        }
        return pattern.toString();
    }

    static MatchSuite suiteWith(String text, String pattern) {
        MatchSuite suite = new MatchSuite();
        for (int i = 0; i < text.length(); i++) {
            suite.write(text.charAt(i) - '0', 1);
        }
        for (int j = 0; j < pattern.length(); j++) {
            suite.extend(pattern.charAt(j) - '0');
        }
        return suite;
    }
}
