import java.lang.reflect.Constructor;
import java.lang.reflect.Field;
import java.lang.reflect.Method;
import java.lang.reflect.Modifier;
import java.util.Arrays;
import java.util.Set;
import java.util.StringJoiner;
import java.util.TreeSet;

/** The document's face, line by line, and nothing else that can be seen from outside. */
public final class FaceTest extends Checks {
    private static final String MISSES = " throws NoSuchElementException";
    private static final String BOTH = " throws NoSuchElementException, IllegalArgumentException";
    private static final String[] FACE = {
        "int feed(int, int, int, int, int)", "int program(int) throws IllegalArgumentException", "int fault()",
        "int count(int)" + MISSES, "int set(int)" + MISSES, "int steps(int)", "int give(int, int)", "int undo()",
        "int switched(int, int)" + MISSES, "int input(int, int)" + MISSES, "int digest(int)" + MISSES,
        "int snapshot(int)" + MISSES, "int seek(int)" + MISSES, "int cell(int)" + MISSES,
        "int thread(int, int)" + MISSES, "int lock(int)" + MISSES, "int mark()", "int back(int, int)" + MISSES,
        "int on(int, int)" + MISSES, "int last(int, int)" + MISSES, "int held(int)" + MISSES,
        "int firstRead(int)" + MISSES, "int races(int)" + MISSES, "int race(int, int)" + MISSES,
        "int guards(int)" + MISSES, "int hot(int, int)" + MISSES, "int diverged(int, int, int, int)" + MISSES,
        "int matters(int)" + MISSES, "int outcomes(int, int)" + BOTH, "int toSpare(int, int)" + BOTH,
        "void image()", "boolean restore()",
    };

    public static void main(String[] args) {
        about("the public face");
        Class<?> type = RecordDesk.class;
        same("the class", Modifier.toString(type.getModifiers()), "public final");
        constructors(type);
        methods(type);
        fields(type);
        for (Class<?> inside : type.getDeclaredClasses()) {
            boolean isFine = Modifier.isStatic(inside.getModifiers())
                && !Modifier.isPublic(inside.getModifiers()) && !Modifier.isProtected(inside.getModifiers());
            if (!isFine) same("class " + inside.getName(), Modifier.toString(inside.getModifiers()), "private static");
        }
        finish("the face is the document's");
    }

    private static void constructors(Class<?> type) {
        for (Constructor<?> each : type.getDeclaredConstructors()) {
            same("a constructor", Modifier.toString(each.getModifiers()) + each.getParameterCount(), "public0");
        }
    }

    private static void methods(Class<?> type) {
        Set<String> seen = new TreeSet<>();
        Set<String> names = new TreeSet<>();
        for (Method each : type.getDeclaredMethods()) {
            if (Modifier.isPublic(each.getModifiers())) {
                names.add(each.getName());
                seen.add(Modifier.isStatic(each.getModifiers()) ? "static " + told(each) : told(each));
            }
        }
        same("public methods", seen.toString(), new TreeSet<>(Arrays.asList(FACE)).toString());
        for (Method each : type.getDeclaredMethods()) {
            if (Modifier.isPublic(each.getModifiers()) || each.isSynthetic()) continue;
            if (!Modifier.isPrivate(each.getModifiers())) same("a method inside", each.toString(), "a private one");
            if (names.contains(each.getName())) same("a private method's name", each.toString(), "another one");
        }
    }

    private static String told(Method method) {
        StringJoiner types = new StringJoiner(", ", "(", ")");
        for (Class<?> each : method.getParameterTypes()) types.add(each.getSimpleName());
        StringJoiner thrown = new StringJoiner(", ", " throws ", "").setEmptyValue("");
        for (Class<?> each : method.getExceptionTypes()) thrown.add(each.getSimpleName());
        return method.getReturnType().getSimpleName() + " " + method.getName() + types + thrown;
    }

    private static void fields(Class<?> type) {
        StringJoiner seen = new StringJoiner(", ");
        for (Field each : type.getDeclaredFields()) {
            if (!Modifier.isPrivate(each.getModifiers()) && !each.isSynthetic()) seen.add(each.toString());
        }
        same("fields", seen.toString(), "public static final int RecordDesk.NONE");
        due("NONE", () -> RecordDesk.NONE, -1);
    }
}
