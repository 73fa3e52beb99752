import java.io.IOException;
import java.lang.reflect.Field;
import java.lang.reflect.Method;
import java.lang.reflect.Modifier;
import java.nio.file.Files;
import java.nio.file.Path;
import java.util.Map;
import java.util.Set;
import java.util.TreeMap;
import java.util.TreeSet;
import java.util.regex.Matcher;
import java.util.regex.Pattern;

/** The class keeps to the rules of ../shared/LANGUAGE.md, as far as a look at its source can tell. */
public final class LanguageTest {
    private static final Path SOURCE = Path.of("src/main/java/MatchSuite.java");
    private static final String[] OUTSIDE_WORDS = {
        "import", "package", "throw", "throws", "try", "catch", "synchronized", "assert", "instanceof", "null",
        "float", "double", "interface", "enum", "record", "protected",
        "String", "Math", "Integer", "Long", "System", "Arrays", "Object",
        "equals", "hashCode", "toString", "getClass", "clone"};
    private static final String ARRAY_MADE =
        "(?m)^    private final (int|long)\\[\\] \\w+ = new \\1\\[([A-Z_]+|[1-9]\\d*)\\];$";
    private static final String CALL_IN_ARGUMENTS =
        "\\b(?!if\\b|while\\b|for\\b|switch\\b)[a-z]\\w*\\([^(){};]*\\b[a-z]\\w*\\(";
    private static final String COUNTING_FOR =
        "\\bfor \\(int (\\w+) = [^;]+; \\1 (<|<=|>=|>) [^;]+; \\1(\\+\\+|--)\\) \\{";
    private static final String COUNTING_WHILE =
        "\\bwhile \\((?:\\w+ \\+ )?(\\w+) < \\w+ [^\n]*\\) \\{\n +\\1\\+\\+;\n +\\}";
    private static final Pattern METHOD = Pattern.compile(
        "(?ms)^    (?:public|private) (?:static )?(?:\\w+ )?(\\w+)\\([^)]*\\) \\{\n(.*?)^    \\}$");
    private static final int MOST_FIELDS = 40;
    private static final int MOST_PARAMETERS = 7;
    private static final int MOST_LINES = 60;
    private static final int MOST_DEPTH = 6;

    private static final Check check = new Check();

    public static void main(String[] args) throws IOException {
        String source = withoutComments(Files.readString(SOURCE));
        testFields();
        testMethods();
        testWords(source);
        testArrays(source);
        testLoops(source);
        testCalls(source);
        check.end();
    }

    private static String withoutComments(String source) {
        return source.replaceAll("(?s)/\\*.*?\\*/", "").replaceAll("//[^\n]*", "");
    }

    private static boolean has(String source, String regex) {
        return Pattern.compile(regex).matcher(source).find();
    }

    private static long times(String source, String regex) {
        return Pattern.compile(regex).matcher(source).results().count();
    }

    private static void testFields() {
        int own = 0;
        for (Field field : MatchSuite.class.getDeclaredFields()) {
            int modifiers = field.getModifiers();
            if (Modifier.isStatic(modifiers)) {
                boolean number = field.getType() == int.class || field.getType() == long.class;
                check.due("rule 5: " + field, Modifier.isFinal(modifiers) && number, true);
            } else {
                own++;
                Class<?> type = field.getType();
                boolean plain = type.isPrimitive() || type.isArray() && type.getComponentType().isPrimitive();
                check.due("rule 2: " + field, plain, true);
            }
        }
        check.due("rule 10: not too many fields", own <= MOST_FIELDS, true);
    }

    private static void testMethods() {
        Set<String> names = new TreeSet<>();
        for (Method method : MatchSuite.class.getDeclaredMethods()) {
            check.due("rule 1: a second " + method.getName(), !names.add(method.getName()), false);
            check.due("rule 10: parameters of " + method, method.getParameterCount() <= MOST_PARAMETERS, true);
            check.due("rule 4: an array answered by " + method, method.getReturnType().isArray(), false);
        }
    }

    private static void testWords(String source) {
        for (String word : OUTSIDE_WORDS) {
            check.due("the source has the word " + word, has(source, "\\b" + word + "\\b"), false);
        }
        check.due("rule 6: a lambda", has(source, "->"), false);
        check.due("rule 6: a method reference", has(source, "::"), false);
        check.due("rule 5: a constant that takes a call", has(source, "static final [^;]*\\w\\("), false);
        check.due("rule 5: a static initialiser", has(source, "static\\s*\\{"), false);
        check.due("rule 2: a text", has(source, "\""), false);
    }

    private static void testArrays(String source) {
        long made = times(source, "\\bnew\\b");
        check.due("rule 4: things made, but for arrays of a literal or constant length made in a field's initialiser",
            made - times(source, ARRAY_MADE), 0);
    }

    private static void testLoops(String source) {
        check.due("rule 8: for loops that do not just count against a bound",
            times(source, "\\bfor\\b") - times(source, COUNTING_FOR), 0);
        check.due("rule 8: while loops that do not just count against a bound",
            times(source, "\\bwhile\\b") - times(source, COUNTING_WHILE), 0);
    }

    private static void testCalls(String source) {
        check.due("rule 10: a call inside the arguments of another", has(source, CALL_IN_ARGUMENTS), false);
        Map<String, String> bodies = new TreeMap<>();
        for (Matcher method = METHOD.matcher(source); method.find();) {
            bodies.put(method.group(1), method.group(2));
        }
        // The methods that the source was seen to have are those that the class has, so none was overlooked.
        Set<String> names = new TreeSet<>(Set.of("MatchSuite"));
        for (Method method : MatchSuite.class.getDeclaredMethods()) {
            names.add(method.getName());
        }
        check.due("the methods found in the source", bodies.keySet().toString(), names.toString());
        for (String name : bodies.keySet()) {
            check.due("rule 10: " + name + " is short", bodies.get(name).lines().count() <= MOST_LINES, true);
            check.due("rule 10: the calls below " + name + " are not too deep",
                depth(name, bodies, new TreeSet<>()) <= MOST_DEPTH, true);
        }
    }

    private static int depth(String name, Map<String, String> bodies, Set<String> above) {
        check.due("rule 8: " + name + " calls itself, through " + above, above.contains(name), false);
        if (above.contains(name)) {
            return 0;
        }
        Set<String> way = new TreeSet<>(above);
        way.add(name);
        int deepest = 0;
        for (String callee : bodies.keySet()) {
            if (has(bodies.get(name), "\\b" + callee + "\\(")) {
                deepest = Math.max(deepest, depth(callee, bodies, way));
            }
        }
        return 1 + deepest;
    }
}
