import java.lang.reflect.Constructor;
import java.lang.reflect.Field;
import java.lang.reflect.Method;
import java.lang.reflect.Modifier;
import java.util.ArrayList;
import java.util.Arrays;
import java.util.List;
import java.util.TreeSet;

/** The public face: the document's constants, constructor and methods, and no other member. */
public final class FaceTest {
    private static final Check CHECK = new Check();
    private static final String A = " throws IllegalArgumentException";
    private static final String S = " throws IllegalStateException";
    private static final String I = " throws IndexOutOfBoundsException";
    private static final String S_A = S + ", IllegalArgumentException";
    private static final String[] METHODS = {
        "void clear(boolean)",
        "int hole(int, int)" + A + ", IllegalStateException",
        "int freeze()" + S,
        "int at(int, int)",
        "int jump(int, int)" + I,
        "void place(boolean, int)" + A,
        "int after(int, int)" + I + ", IllegalArgumentException",
        "int count(int)" + S_A,
        "int solve(int)" + S_A,
        "int way(int, int)" + S_A,
        "int moves(int)" + S_A,
        "int classes(int)" + S_A,
        "int symmetries()",
        "int image(int, int)" + I,
        "int least(int)" + A + ", IllegalStateException",
        "int parity(int)" + A,
        "void weight(int, int)" + I + ", IllegalArgumentException",
        "int weights(int)" + I,
        "boolean find()" + S,
    };

    public static void main(String[] args) {
        CHECK.same("NONE", "-1", Integer.toString(PegBoards.NONE));
        CHECK.same("LIMIT", "-2", Integer.toString(PegBoards.LIMIT));
        CHECK.same("the class", "public final", Modifier.toString(PegBoards.class.getModifiers()));
        CHECK.same("methods", new TreeSet<>(Arrays.asList(METHODS)).toString(),
                methods().toString());
        CHECK.same("fields", "[LIMIT, NONE]", fields().toString());
        CHECK.same("constructors", "[public PegBoards()]", constructors().toString());
        noPrivateNamesake();
        CHECK.end();
    }

    private static TreeSet<String> methods() {
        TreeSet<String> result = new TreeSet<>();
        for (Method m : PegBoards.class.getDeclaredMethods()) {
            if (!Modifier.isPrivate(m.getModifiers()) && !m.isSynthetic()) {
                result.add(m.getReturnType() + " " + m.getName() + "("
                        + names(m.getParameterTypes()) + ")" + throwing(m));
            }
        }
        return result;
    }

    private static String throwing(Method m) {
        return m.getExceptionTypes().length == 0 ? "" : " throws " + names(m.getExceptionTypes());
    }

    private static String names(Class<?>[] types) {
        List<String> result = new ArrayList<>();
        for (Class<?> type : types) {
            result.add(type.getSimpleName());
        }
        return String.join(", ", result);
    }

    private static TreeSet<String> fields() {
        TreeSet<String> result = new TreeSet<>();
        for (Field f : PegBoards.class.getDeclaredFields()) {
            if (!Modifier.isPrivate(f.getModifiers()) && !f.isSynthetic()) {
                result.add(f.getName());
            }
        }
        return result;
    }

    private static List<String> constructors() {
        List<String> result = new ArrayList<>();
        for (Constructor<?> c : PegBoards.class.getDeclaredConstructors()) {
            result.add(c.toString());
        }
        return result;
    }

    private static void noPrivateNamesake() {
        TreeSet<String> face = new TreeSet<>();
        for (Method m : PegBoards.class.getMethods()) {
            face.add(m.getName());
        }
        List<Class<?>> all = new ArrayList<>(Arrays.asList(PegBoards.class.getDeclaredClasses()));
        all.add(PegBoards.class);
        for (Class<?> each : all) {
            for (Method m : each.getDeclaredMethods()) {
                if (!Modifier.isPublic(m.getModifiers()) && face.contains(m.getName())) {
                    CHECK.same(each.getSimpleName() + "." + m.getName(), "another name", "a namesake");
                }
            }
        }
    }
}
