/**
 * Finds a pattern in a text in ten ways, which all find the same.
 *
 * A set of places is held in a long, bit i standing for place i: the 61 places
 * at which a pattern can occur fit, and two sets are compared as two numbers.
 *
 * The tables of the engines are filled anew by each search that needs them, so
 * that no call that changes the text or the pattern has to keep them right.
 */
public final class MatchSuite {
    public static final int BAD = -1;
    public static final int FULL = -2;

    private static final int LETTERS = 4;
    private static final int LETTER_BITS = 2;
    private static final int MAX_TEXT = 60;
    private static final int MAX_PATTERN = 12;
    private static final int MAX_JOINED = MAX_PATTERN + 1 + MAX_TEXT;
    private static final int STATES = MAX_PATTERN + 1;
    private static final int TRANSITIONS = STATES * LETTERS;
    private static final int ENGINES = 10;
    private static final int MAX_OTHER = 3;
    /** Stands between pattern and text where they are joined; equals no letter. */
    private static final int SEPARATOR = LETTERS;

    private final int[] text = new int[MAX_TEXT];
    private int textLength;
    private final int[] pattern = new int[MAX_PATTERN];
    private int patternLength;

    /** At j: the greatest border of the pattern's first j + 1 letters. */
    private final int[] borders = new int[MAX_PATTERN];
    /** The pattern, the separator and the text, one after the other. */
    private final int[] joined = new int[MAX_JOINED];
    /** At i: how many letters from i on in joined are those at its beginning. */
    private final int[] prefixLengths = new int[MAX_JOINED];
    /** At a letter: its last place in a beginning of the pattern, or -1. */
    private final int[] lastPlaces = new int[LETTERS];
    /** At j + 1: how far to move when place j of the pattern is the first, from the right, to differ. */
    private final int[] suffixShifts = new int[STATES];
    /** At a letter: the set of its places in the pattern. */
    private final int[] patternPlaces = new int[LETTERS];
    /** At state * LETTERS + letter: the state that follows. */
    private final int[] transitions = new int[TRANSITIONS];
    /** At a letter: the set of its places in the text. */
    private final long[] textPlaces = new long[LETTERS];

    public MatchSuite() {
        textLength = 0;
        patternLength = 0;
    }

    // ---- the text and the pattern ----

    public int write(int letter, int n) {
        if (!isLetter(letter) || n < 1 || n > MAX_TEXT) {
            return BAD;
        }
        if (n > MAX_TEXT - textLength) {
            return FULL;
        }
        int end = textLength + n;
        for (int i = textLength; i < end; i++) {
            text[i] = letter;
        }
        textLength = end;
        return textLength;
    }

    public int again(int back, int n) {
        if (back < 1 || back > textLength || n < 1 || n > MAX_TEXT) {
            return BAD;
        }
        if (n > MAX_TEXT - textLength) {
            return FULL;
        }
        int end = textLength + n;
        // From left to right, as a letter may repeat one that this call appended.
        for (int i = textLength; i < end; i++) {
            text[i] = text[i - back];
        }
        textLength = end;
        return textLength;
    }

    public int cut(int n) {
        if (n < 0 || n > MAX_TEXT) {
            return BAD;
        }
        textLength = n < textLength ? textLength - n : 0;
        return textLength;
    }

    public int change(int i, int letter) {
        if (i < 0 || i >= textLength || !isLetter(letter)) {
            return BAD;
        }
        int former = text[i];
        text[i] = letter;
        return former;
    }

    public int extend(int letter) {
        if (!isLetter(letter)) {
            return BAD;
        }
        if (patternLength >= MAX_PATTERN) {
            return FULL;
        }
        pattern[patternLength] = letter;
        patternLength++;
        return patternLength;
    }

    public int shorten() {
        if (patternLength < 1) {
            return BAD;
        }
        patternLength--;
        return pattern[patternLength];
    }

    public boolean copy(int i, int n) {
        // The difference is compared, as i + n could wrap around.
        if (n < 0 || n > MAX_PATTERN || i < 0 || i > textLength - n) {
            return false;
        }
        for (int j = 0; j < n; j++) {
            pattern[j] = text[i + j];
        }
        patternLength = n;
        return true;
    }

    // ---- the calls that take an engine ----

    public int count(int engine) {
        if (!isEngine(engine)) {
            return BAD;
        }
        long places = findPlaces(engine);
        int found = 0;
        for (int i = 0; i <= MAX_TEXT; i++) {
            if (hasPlace(places, i)) {
                found++;
            }
        }
        return found;
    }

    public int next(int engine, int from) {
        if (!isEngine(engine)) {
            return BAD;
        }
        long places = findPlaces(engine);
        int start = from < 0 ? 0 : from;
        for (int i = start; i <= MAX_TEXT; i++) {
            if (hasPlace(places, i)) {
                return i;
            }
        }
        return BAD;
    }

    public int last(int engine, int to) {
        if (!isEngine(engine)) {
            return BAD;
        }
        long places = findPlaces(engine);
        int start = to > MAX_TEXT ? MAX_TEXT : to;
        for (int i = start; i >= 0; i--) {
            if (hasPlace(places, i)) {
                return i;
            }
        }
        return BAD;
    }

    public int kth(int engine, int k) {
        if (!isEngine(engine)) {
            return BAD;
        }
        long places = findPlaces(engine);
        int before = 0;
        for (int i = 0; i <= MAX_TEXT; i++) {
            if (hasPlace(places, i)) {
                if (before == k) {
                    return i;
                }
                before++;
            }
        }
        return BAD;
    }

    public int apart(int engine) {
        if (!isEngine(engine)) {
            return BAD;
        }
        long places = findPlaces(engine);
        int distance = patternLength < 1 ? 1 : patternLength;
        int taken = 0;
        int free = 0;
        // Taking the least that is free is best: it leaves the most to the others.
        for (int i = 0; i <= MAX_TEXT; i++) {
            if (i >= free && hasPlace(places, i)) {
                taken++;
                free = i + distance;
            }
        }
        return taken;
    }

    public boolean agree(int engine, int other) {
        if (!isEngine(engine) || !isEngine(other)) {
            return false;
        }
        long places = findPlaces(engine);
        long otherPlaces = findPlaces(other);
        return places == otherPlaces;
    }

    // ---- the calls that take none ----

    public int border() {
        if (patternLength < 1) {
            return BAD;
        }
        fillBorders();
        return borders[patternLength - 1];
    }

    public int shared(int i) {
        if (i < 0 || i > textLength) {
            return BAD;
        }
        int same = 0;
        while (same < patternLength && i + same < textLength && text[i + same] == pattern[same]) {
            same++;
        }
        return same;
    }

    public int near(int e) {
        if (e < 0 || e > MAX_OTHER) {
            return BAD;
        }
        int found = 0;
        for (int i = 0; i <= textLength - patternLength; i++) {
            if (differencesAt(i) <= e) {
                found++;
            }
        }
        return found;
    }

    // ---- what the calls have in common ----

    private static boolean isLetter(int letter) {
        return letter >= 0 && letter < LETTERS;
    }

    private static boolean isEngine(int engine) {
        return engine >= 0 && engine < ENGINES;
    }

    private static boolean hasPlace(long places, int i) {
        return ((places >>> i) & 1L) != 0L;
    }

    private int differencesAt(int place) {
        int differences = 0;
        for (int j = 0; j < patternLength; j++) {
            if (text[place + j] != pattern[j]) {
                differences++;
            }
        }
        return differences;
    }

    private boolean matchesAt(int place) {
        for (int j = 0; j < patternLength; j++) {
            if (text[place + j] != pattern[j]) {
                return false;
            }
        }
        return true;
    }

    /**
     * The set of all occurrences. The two easy cases are settled here, so that
     * each engine may rely on a pattern of at least one letter and at most as
     * many as the text has.
     */
    private long findPlaces(int engine) {
        if (patternLength == 0) {
            return (1L << (textLength + 1)) - 1L;
        }
        if (patternLength > textLength) {
            return 0L;
        }
        switch (engine) {
            case 0: return findByTrying();
            case 1: return findByBorders();
            case 2: return findByPrefixLengths();
            case 3: return findByLastPlacesAndSuffixes();
            case 4: return findByLetterAtEnd();
            case 5: return findByLetterBehindEnd();
            case 6: return findByNumber();
            case 7: return findByRunningPrefixes();
            case 8: return findByAutomaton();
            // The callers let only 0 .. 9 through.
            default: return findByTextPlaces();
        }
    }

    // ---- engine 0: every place is tried ----

    private long findByTrying() {
        long places = 0L;
        for (int i = 0; i <= textLength - patternLength; i++) {
            if (matchesAt(i)) {
                places |= 1L << i;
            }
        }
        return places;
    }

    // ---- engine 1: Knuth, Morris and Pratt ----

    private long findByBorders() {
        fillBorders();
        long places = 0L;
        int matched = 0;
        for (int i = 0; i < textLength; i++) {
            matched = matchedWith(matched, text[i]);
            if (matched == patternLength) {
                places |= 1L << (i + 1 - patternLength);
                matched = borders[patternLength - 1];
            }
        }
        return places;
    }

    private void fillBorders() {
        borders[0] = 0;
        for (int j = 1; j < patternLength; j++) {
            borders[j] = matchedWith(borders[j - 1], pattern[j]);
        }
    }

    /** How much of the pattern is matched after one letter more; matched is less than its length. */
    private int matchedWith(int matched, int letter) {
        int kept = matched;
        // A border is shorter than what it borders, so MAX_PATTERN steps always do.
        for (int step = 0; step < MAX_PATTERN && kept > 0 && pattern[kept] != letter; step++) {
            kept = borders[kept - 1];
        }
        return pattern[kept] == letter ? kept + 1 : 0;
    }

    // ---- engine 2: the Z function of pattern and text joined ----

    private long findByPrefixLengths() {
        joinPatternAndText();
        fillPrefixLengths();
        long places = 0L;
        for (int i = 0; i <= textLength - patternLength; i++) {
            if (prefixLengths[patternLength + 1 + i] == patternLength) {
                places |= 1L << i;
            }
        }
        return places;
    }

    private void joinPatternAndText() {
        for (int j = 0; j < patternLength; j++) {
            joined[j] = pattern[j];
        }
        joined[patternLength] = SEPARATOR;
        for (int i = 0; i < textLength; i++) {
            joined[patternLength + 1 + i] = text[i];
        }
    }

    private void fillPrefixLengths() {
        int length = patternLength + 1 + textLength;
        // From knownStart to knownEnd stands what stands at the beginning too.
        int knownStart = 0;
        int knownEnd = 0;
        for (int i = 1; i < length; i++) {
            int same = 0;
            if (i < knownEnd) {
                int inside = prefixLengths[i - knownStart];
                same = inside < knownEnd - i ? inside : knownEnd - i;
            }
            while (i + same < length && joined[same] == joined[i + same]) {
                same++;
            }
            prefixLengths[i] = same;
            if (i + same > knownEnd) {
                knownStart = i;
                knownEnd = i + same;
            }
        }
    }

    // ---- engine 3: Boyer and Moore ----

    private long findByLastPlacesAndSuffixes() {
        fillLastPlaces(patternLength);
        fillSuffixShifts();
        long places = 0L;
        int place = 0;
        // Each step moves on by at least 1, so the steps outlast the text.
        for (int step = 0; step <= MAX_TEXT && place <= textLength - patternLength; step++) {
            int j = lastDifferenceAt(place);
            int shift = suffixShifts[j + 1];
            if (j < 0) {
                places |= 1L << place;
            } else {
                int letterShift = j - lastPlaces[text[place + j]];
                shift = letterShift > shift ? letterShift : shift;
            }
            place += shift;
        }
        return places;
    }

    /** The last place of the pattern whose letter is not the text's, or -1. */
    private int lastDifferenceAt(int place) {
        for (int j = patternLength - 1; j >= 0; j--) {
            if (text[place + j] != pattern[j]) {
                return j;
            }
        }
        return -1;
    }

    /** Looks at the first n letters of the pattern alone. */
    private void fillLastPlaces(int n) {
        for (int letter = 0; letter < LETTERS; letter++) {
            lastPlaces[letter] = -1;
        }
        for (int j = 0; j < n; j++) {
            lastPlaces[pattern[j]] = j;
        }
    }

    private void fillSuffixShifts() {
        for (int j = -1; j < patternLength; j++) {
            int shift = 1;
            while (shift < patternLength && !isSuffixShift(j, shift)) {
                shift++;
            }
            suffixShifts[j + 1] = shift;
        }
    }

    /** Whether the pattern, so shifted, may still occur when all behind j matched and j did not. */
    private boolean isSuffixShift(int j, int shift) {
        if (j >= shift && pattern[j - shift] == pattern[j]) {
            return false;
        }
        for (int k = j + 1; k < patternLength; k++) {
            if (k >= shift && pattern[k - shift] != pattern[k]) {
                return false;
            }
        }
        return true;
    }

    // ---- engine 4: Horspool ----

    private long findByLetterAtEnd() {
        int end = patternLength - 1;
        // Without the last letter, so that each shift is at least 1.
        fillLastPlaces(end);
        long places = 0L;
        int place = 0;
        for (int step = 0; step <= MAX_TEXT && place <= textLength - patternLength; step++) {
            if (matchesAt(place)) {
                places |= 1L << place;
            }
            place += end - lastPlaces[text[place + end]];
        }
        return places;
    }

    // ---- engine 5: Sunday's quick search ----

    private long findByLetterBehindEnd() {
        fillLastPlaces(patternLength);
        long places = 0L;
        int place = 0;
        for (int step = 0; step <= MAX_TEXT && place <= textLength - patternLength; step++) {
            if (matchesAt(place)) {
                places |= 1L << place;
            }
            int behind = place + patternLength;
            place += behind < textLength ? patternLength - lastPlaces[text[behind]] : 1;
        }
        return places;
    }

    // ---- engine 6: Karp and Rabin, with a number that tells all letters ----

    private long findByNumber() {
        int wanted = 0;
        for (int j = 0; j < patternLength; j++) {
            wanted = (wanted << LETTER_BITS) | pattern[j];
        }
        int mask = (1 << (LETTER_BITS * patternLength)) - 1;
        long places = 0L;
        int number = 0;
        for (int i = 0; i < textLength; i++) {
            number = ((number << LETTER_BITS) | text[i]) & mask;
            // Before that many letters are read, the number has zeros that are no letters.
            if (i + 1 >= patternLength && number == wanted) {
                places |= 1L << (i + 1 - patternLength);
            }
        }
        return places;
    }

    // ---- engine 7: shift-and ----

    private long findByRunningPrefixes() {
        fillPatternPlaces();
        int whole = 1 << (patternLength - 1);
        long places = 0L;
        // Bit j: the pattern's first j + 1 letters are the last ones read.
        int running = 0;
        for (int i = 0; i < textLength; i++) {
            running = ((running << 1) | 1) & patternPlaces[text[i]];
            if ((running & whole) != 0) {
                places |= 1L << (i + 1 - patternLength);
            }
        }
        return places;
    }

    private void fillPatternPlaces() {
        for (int letter = 0; letter < LETTERS; letter++) {
            patternPlaces[letter] = 0;
        }
        for (int j = 0; j < patternLength; j++) {
            patternPlaces[pattern[j]] |= 1 << j;
        }
    }

    // ---- engine 8: an automaton, whose state is how much is matched ----

    private long findByAutomaton() {
        fillTransitions();
        long places = 0L;
        int state = 0;
        for (int i = 0; i < textLength; i++) {
            state = transitions[state * LETTERS + text[i]];
            if (state == patternLength) {
                places |= 1L << (i + 1 - patternLength);
            }
        }
        return places;
    }

    private void fillTransitions() {
        for (int letter = 0; letter < LETTERS; letter++) {
            transitions[letter] = 0;
        }
        transitions[pattern[0]] = 1;
        // The state after all letters matched but the first: where a mismatch goes on from.
        int fallback = 0;
        for (int state = 1; state <= patternLength; state++) {
            for (int letter = 0; letter < LETTERS; letter++) {
                transitions[state * LETTERS + letter] = transitions[fallback * LETTERS + letter];
            }
            if (state < patternLength) {
                transitions[state * LETTERS + pattern[state]] = state + 1;
                fallback = transitions[fallback * LETTERS + pattern[state]];
            }
        }
    }

    // ---- engine 9: the sets of the letters' places in the text, shifted and cut ----

    private long findByTextPlaces() {
        fillTextPlaces();
        long places = textPlaces[pattern[0]];
        for (int j = 1; j < patternLength; j++) {
            places &= textPlaces[pattern[j]] >>> j;
        }
        return places;
    }

    private void fillTextPlaces() {
        for (int letter = 0; letter < LETTERS; letter++) {
            textPlaces[letter] = 0L;
        }
        for (int i = 0; i < textLength; i++) {
            textPlaces[text[i]] |= 1L << i;
        }
    }
}
