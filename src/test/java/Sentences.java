import java.util.function.IntConsumer;
import java.util.stream.IntStream;

/** Tests of single sentences of the document; a wrong answer is told with the promise and its words. */
final class Sentences {
    private final Check check = new Check();
    private String heading = "";
    private int tested = 0;

    void test(String where, String words, Runnable test) {
        heading = where + " \"" + words + "\": ";
        long before = check.asked();
        test.run();
        check.due(heading + "asks for an answer", check.asked() > before, true);
        tested++;
    }

    /** For a sentence that has to hold for each of the ten engines. */
    void testEngines(String where, String words, IntConsumer test) {
        test(where, words, () -> IntStream.rangeClosed(0, 9).forEach(test));
    }

    Run run(String text, String pattern) {
        return new Run(check, heading, text, pattern);
    }

    Run run() {
        return run("", "");
    }

    void due(String what, long got, long want) {
        check.due(heading + what, got, want);
    }

    void end() {
        System.out.println(tested + " sentences");
        check.end();
    }

    /**
     * Numbers below least and above greatest: those next to them, the ends of int, and those
     * that a cast to a smaller type or a shift would turn into one of the range.
     */
    static int[] outside(int least, int greatest) {
        return IntStream.of(
                Integer.MIN_VALUE, Integer.MIN_VALUE + least, least - 65536, least - 256, least - 64, least - 1,
                greatest + 1, least + 64, least + 256, least + 65536,
                Integer.MAX_VALUE - 60, Integer.MAX_VALUE - 1, Integer.MAX_VALUE)
            .filter(n -> n < least || n > greatest)
            .toArray();
    }
}
