import java.util.ArrayList;
import java.util.List;

/** What the document says, written with strings and without any engine. */
final class Model {
    String text = "";
    String pattern = "";

    static boolean isLetter(int letter) {
        return 0 <= letter && letter <= 3;
    }

    static boolean isEngine(int engine) {
        return 0 <= engine && engine <= 9;
    }

    int write(int letter, int n) {
        if (!isLetter(letter) || n < 1 || n > 60) {
            return MatchSuite.BAD;
        }
        if (text.length() + n > 60) {
            return MatchSuite.FULL;
        }
        text += String.valueOf(letter).repeat(n);
        return text.length();
    }

    int again(int back, int n) {
        if (back < 1 || back > text.length() || n < 1 || n > 60) {
            return MatchSuite.BAD;
        }
        if (text.length() + n > 60) {
            return MatchSuite.FULL;
        }
        for (int i = 0; i < n; i++) {
            text += text.charAt(text.length() - back);
        }
        return text.length();
    }

    int cut(int n) {
        if (n < 0 || n > 60) {
            return MatchSuite.BAD;
        }
        text = text.substring(0, Math.max(0, text.length() - n));
        return text.length();
    }

    int change(int i, int letter) {
        if (i < 0 || i >= text.length() || !isLetter(letter)) {
            return MatchSuite.BAD;
        }
        int former = text.charAt(i) - '0';
        text = text.substring(0, i) + letter + text.substring(i + 1);
        return former;
    }

    int extend(int letter) {
        if (!isLetter(letter)) {
            return MatchSuite.BAD;
        }
        if (pattern.length() == 12) {
            return MatchSuite.FULL;
        }
        pattern += letter;
        return pattern.length();
    }

    int shorten() {
        if (pattern.isEmpty()) {
            return MatchSuite.BAD;
        }
        int letter = pattern.charAt(pattern.length() - 1) - '0';
        pattern = pattern.substring(0, pattern.length() - 1);
        return letter;
    }

    boolean copy(int i, int n) {
        if (n < 0 || n > 12 || i < 0 || (long) i + n > text.length()) {
            return false;
        }
        pattern = text.substring(i, i + n);
        return true;
    }

    List<Integer> occurrences() {
        List<Integer> found = new ArrayList<>();
        for (int i = 0; i <= text.length(); i++) {
            if (text.startsWith(pattern, i)) {
                found.add(i);
            }
        }
        return found;
    }

    int count(int engine) {
        return isEngine(engine) ? occurrences().size() : MatchSuite.BAD;
    }

    int next(int engine, int from) {
        if (isEngine(engine)) {
            for (int place : occurrences()) {
                if (place >= from) {
                    return place;
                }
            }
        }
        return MatchSuite.BAD;
    }

    int last(int engine, int to) {
        int greatest = MatchSuite.BAD;
        if (isEngine(engine)) {
            for (int place : occurrences()) {
                if (place <= to) {
                    greatest = place;
                }
            }
        }
        return greatest;
    }

    int kth(int engine, int k) {
        List<Integer> found = occurrences();
        return isEngine(engine) && k >= 0 && k < found.size() ? found.get(k) : MatchSuite.BAD;
    }

    /** Weighs for each occurrence whether to take it, so as not to trust the greedy way. */
    int apart(int engine) {
        if (!isEngine(engine)) {
            return MatchSuite.BAD;
        }
        int distance = Math.max(1, pattern.length());
        int[] bestFrom = new int[text.length() + 1 + distance];
        for (int i = text.length(); i >= 0; i--) {
            int taken = text.startsWith(pattern, i) ? 1 + bestFrom[i + distance] : 0;
            int left = i + 1 < bestFrom.length ? bestFrom[i + 1] : 0;
            bestFrom[i] = Math.max(taken, left);
        }
        return bestFrom[0];
    }

    boolean agree(int engine, int other) {
        return isEngine(engine) && isEngine(other);
    }

    int border() {
        for (int b = pattern.length() - 1; b >= 0; b--) {
            if (pattern.endsWith(pattern.substring(0, b))) {
                return b;
            }
        }
        return MatchSuite.BAD;
    }

    int shared(int i) {
        if (i < 0 || i > text.length()) {
            return MatchSuite.BAD;
        }
        int same = pattern.length();
        while (!text.startsWith(pattern.substring(0, same), i)) {
            same--;
        }
        return same;
    }

    int near(int e) {
        if (e < 0 || e > 3) {
            return MatchSuite.BAD;
        }
        int found = 0;
        for (int i = 0; i + pattern.length() <= text.length(); i++) {
            int others = 0;
            for (int j = 0; j < pattern.length(); j++) {
                others += text.charAt(i + j) == pattern.charAt(j) ? 0 : 1;
            }
            found += others <= e ? 1 : 0;
        }
        return found;
    }
}
