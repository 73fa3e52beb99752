import java.lang.reflect.InvocationTargetException;
import java.lang.reflect.Method;

/** Calls on one new object, each given as it is written in Java, with the answer that is due. */
final class Run {
    /** The document promises nothing for more, so a test that makes more has a fault of its own. */
    private static final int MOST_CALLS = 512;

    private final Check check;
    private final MatchSuite suite;
    private final StringBuilder told;
    private int calls;

    Run(Check check, String heading, String text, String pattern) {
        this.check = check;
        suite = Probe.suiteWith(text, pattern);
        told = new StringBuilder(heading + "text '" + text + "', pattern '" + pattern + "'");
        makeRoomFor(text.length() + pattern.length());
    }

    Run due(String call, int want) {
        check.due(tell(call), answerOf(call), String.valueOf(want));
        return this;
    }

    Run due(String call, boolean want) {
        check.due(tell(call), answerOf(call), String.valueOf(want));
        return this;
    }

    /** Reads text and pattern through calls, which leave them as they were. */
    Run holds(String text, String pattern) {
        makeRoomFor(2 + 2 * text.length() + 2 * pattern.length());
        check.due(told + ": the text thereafter", Probe.textOf(suite), text);
        check.due(told + ": the pattern thereafter", Probe.patternOf(suite), pattern);
        return this;
    }

    /** Every call that changes nothing, asked at the ends of its range, is answered as by the model. */
    Run answersLike(String text, String pattern) {
        Model model = new Model();
        model.text = text;
        model.pattern = pattern;
        for (int engine = 0; engine <= 9; engine++) {
            due("count(" + engine + ")", model.count(engine));
            due("next(" + engine + ", 0)", model.next(engine, 0));
            due("last(" + engine + ", 60)", model.last(engine, 60));
            due("kth(" + engine + ", 0)", model.kth(engine, 0));
            due("apart(" + engine + ")", model.apart(engine));
            due("agree(" + engine + ", 0)", model.agree(engine, 0));
        }
        due("border()", model.border());
        due("shared(0)", model.shared(0));
        due("shared(60)", model.shared(60));
        due("near(0)", model.near(0));
        return due("near(3)", model.near(3));
    }

    private String tell(String call) {
        return told.append(", ").append(call).toString();
    }

    private void makeRoomFor(int more) {
        calls += more;
        if (calls > MOST_CALLS) {
            throw new IllegalStateException("a test makes more than " + MOST_CALLS + " calls on one object");
        }
    }

    private String answerOf(String call) {
        makeRoomFor(1);
        int open = call.indexOf('(');
        String inside = call.substring(open + 1, call.indexOf(')'));
        String[] words = inside.isEmpty() ? new String[0] : inside.split(", ");
        Class<?>[] types = new Class<?>[words.length];
        Object[] numbers = new Object[words.length];
        for (int i = 0; i < words.length; i++) {
            types[i] = int.class;
            numbers[i] = Integer.valueOf(words[i]);
        }
        try {
            Method method = MatchSuite.class.getMethod(call.substring(0, open), types);
            return String.valueOf(method.invoke(suite, numbers));
        } catch (InvocationTargetException thrown) {
            return thrown.getCause().toString();
        } catch (ReflectiveOperationException none) {
            throw new IllegalStateException("there is no call " + call, none);
        }
    }
}
