import java.io.IOException;
import java.lang.reflect.Constructor;
import java.lang.reflect.Field;
import java.lang.reflect.Method;
import java.lang.reflect.Modifier;
import java.nio.file.Files;
import java.nio.file.Path;
import java.util.Set;
import java.util.TreeSet;
import java.util.regex.Matcher;
import java.util.regex.Pattern;

/** The public members are those of the document, and the source keeps to what LANGUAGE.md leaves. */
public final class FaceTest {
    private static final Path SOURCE = Path.of("src/main/java/MatchSuite.java");
    private static final Set<String> FACE = Set.of(
        "public static final int BAD",
        "public static final int FULL",
        "public MatchSuite()",
        "public int write(int,int)",
        "public int again(int,int)",
        "public int cut(int)",
        "public int change(int,int)",
        "public int extend(int)",
        "public int shorten()",
        "public boolean copy(int,int)",
        "public int count(int)",
        "public int next(int,int)",
        "public int last(int,int)",
        "public int kth(int,int)",
        "public int apart(int)",
        "public boolean agree(int,int)",
        "public int border()",
        "public int shared(int)",
        "public int near(int)");
    private static final String[] OUTSIDE_WORDS = {
        "import", "package", "throw", "throws", "try", "catch", "synchronized", "assert", "instanceof", "null",
        "float", "double", "interface", "enum", "record", "protected",
        "String", "Math", "Integer", "Long", "System", "Arrays", "Object",
        "equals", "hashCode", "toString", "getClass", "clone"};
    private static final int MOST_FIELDS = 40;
    private static final int MOST_PARAMETERS = 7;

    private static final Check check = new Check();

    public static void main(String[] args) throws IOException {
        testFace();
        testFields();
        testPrivateMethods();
        testSource(withoutComments(Files.readString(SOURCE)));
        check.end();
    }

    private static void testFace() {
        Set<String> visible = new TreeSet<>();
        for (Field field : MatchSuite.class.getDeclaredFields()) {
            if (!Modifier.isPrivate(field.getModifiers())) {
                visible.add(face(field.toString()));
            }
        }
        for (Constructor<?> constructor : MatchSuite.class.getDeclaredConstructors()) {
            visible.add(face(constructor.toString()));
        }
        for (Method method : MatchSuite.class.getDeclaredMethods()) {
            if (!Modifier.isPrivate(method.getModifiers())) {
                visible.add(face(method.toString()));
            }
        }
        check.due("the public face", visible.toString(), new TreeSet<>(FACE).toString());
        check.due("the class's modifiers", Modifier.toString(MatchSuite.class.getModifiers()), "public final");
        check.due("nested classes", MatchSuite.class.getDeclaredClasses().length, 0);
    }

    private static String face(String member) {
        return member.replace("MatchSuite.", "");
    }

    private static void testFields() {
        int own = 0;
        for (Field field : MatchSuite.class.getDeclaredFields()) {
            int modifiers = field.getModifiers();
            if (Modifier.isStatic(modifiers)) {
                boolean number = field.getType() == int.class || field.getType() == long.class;
                check.due("rule 5: " + field, Modifier.isFinal(modifiers) && number, true);
            } else {
                own++;
                Class<?> type = field.getType();
                boolean plain = type.isPrimitive() || type.isArray() && type.getComponentType().isPrimitive();
                check.due("rule 2: " + field, plain, true);
            }
        }
        check.due("rule 10: not too many fields", own <= MOST_FIELDS, true);
    }

    private static void testPrivateMethods() {
        Set<String> names = new TreeSet<>();
        for (Method method : MatchSuite.class.getDeclaredMethods()) {
            check.due("rule 1: a second " + method.getName(), names.add(method.getName()), true);
            check.due("rule 10: parameters of " + method, method.getParameterCount() <= MOST_PARAMETERS, true);
            check.due("rule 4: an array answered by " + method, method.getReturnType().isArray(), false);
        }
    }

    private static void testSource(String source) {
        for (String word : OUTSIDE_WORDS) {
            check.due("the source has the word " + word, has(source, "\\b" + word + "\\b"), false);
        }
        check.due("the source has a lambda", has(source, "->"), false);
        check.due("the source has a method reference", has(source, "::"), false);
        check.due("the source has a static initialiser", has(source, "static\\s*\\{"), false);
        check.due("the source has a text", has(source, "\""), false);
        long made = times(source, "\\bnew\\b");
        long madeInFields = times(source, "(?m)^    private final (int|long)\\[\\] \\w+ = new \\1\\[[A-Z_* ]+\\];$");
        check.due("rule 4: arrays made outside of the fields' initialisers", made - madeInFields, 0);
        boolean nested = has(source, "\\b(?!if\\b|while\\b|for\\b|switch\\b)[a-z]\\w*\\([^(){};]*\\b[a-z]\\w*\\(");
        check.due("rule 10: a call inside the arguments of another", nested, false);
    }

    private static String withoutComments(String source) {
        return source.replaceAll("(?s)/\\*.*?\\*/", "").replaceAll("//[^\n]*", "");
    }

    private static boolean has(String source, String regex) {
        return Pattern.compile(regex).matcher(source).find();
    }

    private static long times(String source, String regex) {
        Matcher matcher = Pattern.compile(regex).matcher(source);
        return matcher.results().count();
    }
}
