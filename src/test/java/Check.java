/** Counts and prints the answers that are not as due. */
final class Check {
    private static final int MOST_PRINTED = 50;

    private long wrong = 0;
    private long asked = 0;

    void due(String call, long got, long want) {
        asked++;
        if (got != want) {
            tell(call + " answered " + got + ", due is " + want);
        }
    }

    void due(String call, boolean got, boolean want) {
        asked++;
        if (got != want) {
            tell(call + " answered " + got + ", due is " + want);
        }
    }

    void due(String call, String got, String want) {
        asked++;
        if (!got.equals(want)) {
            tell(call + " is " + got + ", due is " + want);
        }
    }

    long asked() {
        return asked;
    }

    private void tell(String line) {
        wrong++;
        if (wrong <= MOST_PRINTED) {
            System.out.println(line);
        }
    }

    /** Ends the program with exit code 1 if an answer was wrong, or none was asked for. */
    void end() {
        System.out.println(asked + " answers, " + wrong + " not as due");
        if (wrong != 0 || asked == 0) {
            System.exit(1);
        }
    }
}
