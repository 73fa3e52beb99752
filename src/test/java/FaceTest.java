import java.lang.reflect.Constructor;
import java.lang.reflect.Field;
import java.lang.reflect.Method;
import java.lang.reflect.Modifier;
import java.util.Set;
import java.util.TreeSet;

/** The members that can be seen from outside are those of the document's public face, and no others. */
public final class FaceTest {
    private static final Set<String> FACE = Set.of(
        "public static final int BAD",
        "public static final int FULL",
        "public MatchSuite()",
        "public int write(int,int)",
        "public int again(int,int)",
        "public int cut(int)",
        "public int change(int,int)",
        "public int extend(int)",
        "public int shorten()",
        "public boolean copy(int,int)",
        "public int count(int)",
        "public int next(int,int)",
        "public int last(int,int)",
        "public int kth(int,int)",
        "public int apart(int)",
        "public boolean agree(int,int)",
        "public int border()",
        "public int shared(int)",
        "public int near(int)");

    private static final Check check = new Check();

    public static void main(String[] args) {
        Set<String> visible = new TreeSet<>();
        for (Field field : MatchSuite.class.getDeclaredFields()) {
            if (!Modifier.isPrivate(field.getModifiers())) {
                visible.add(face(field.toString()));
            }
        }
        for (Constructor<?> constructor : MatchSuite.class.getDeclaredConstructors()) {
            visible.add(face(constructor.toString()));
        }
        for (Method method : MatchSuite.class.getDeclaredMethods()) {
            if (!Modifier.isPrivate(method.getModifiers())) {
                visible.add(face(method.toString()));
            }
        }
        check.due("the public face", visible.toString(), new TreeSet<>(FACE).toString());
        check.due("the class's modifiers", Modifier.toString(MatchSuite.class.getModifiers()), "public final");
        check.due("the class above", MatchSuite.class.getSuperclass().getName(), "java.lang.Object");
        check.due("interfaces", MatchSuite.class.getInterfaces().length, 0);
        check.due("nested classes", MatchSuite.class.getDeclaredClasses().length, 0);
        check.end();
    }

    private static String face(String member) {
        return member.replace("MatchSuite.", "");
    }
}
