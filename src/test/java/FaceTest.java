import java.lang.reflect.Constructor;
import java.lang.reflect.Field;
import java.lang.reflect.Method;
import java.lang.reflect.Modifier;
import java.util.Arrays;
import java.util.TreeSet;

/** The class has the document's face and no other member that can be seen from outside. */
public final class FaceTest {
    private static final String[] METHODS = {
        "void format(int, int) IllegalArgumentException",
        "boolean make(int, int, int) IllegalArgumentException",
        "void copy(int, int) IllegalArgumentException",
        "void drop(int) IllegalArgumentException",
        "void link(int, int, int) IllegalArgumentException IllegalStateException NoSuchElementException",
        "int follow(int, int, int) IllegalArgumentException IllegalStateException NoSuchElementException",
        "int set(int, int, int) IllegalArgumentException IllegalStateException NoSuchElementException",
        "int loose(int, int) IllegalArgumentException",
        "boolean take(int, int) IllegalArgumentException",
        "int collect()",
        "int root(int)",
        "int word(int)",
        "int object(int, int)",
        "int page(int, int)",
        "int look(int)",
    };

    private FaceTest() {
    }

    public static void main(String[] args) {
        Check check = new Check();
        int modifiers = LooseHeap.class.getModifiers();
        check.yes("the class is public", Modifier.isPublic(modifiers));
        check.yes("the class is final", Modifier.isFinal(modifiers));
        check.same("NONE", LooseHeap.NONE, -1);
        check.same("the methods", methods(), lines(new TreeSet<>(Arrays.asList(METHODS))));
        check.same("the constructors", constructors(), "public ()\n");
        check.same("the fields", fields(), "public static final int NONE\n");
        check.end();
    }

    private static String lines(TreeSet<String> texts) {
        StringBuilder out = new StringBuilder();
        for (String text : texts) {
            out.append(text).append('\n');
        }
        return out.toString();
    }

    private static String methods() {
        TreeSet<String> found = new TreeSet<>();
        for (Method method : LooseHeap.class.getDeclaredMethods()) {
            if (Modifier.isPrivate(method.getModifiers()) || method.isSynthetic()) {
                continue;
            }
            StringBuilder text = new StringBuilder();
            text.append(method.getReturnType().getSimpleName()).append(' ').append(method.getName());
            text.append(parameters(method.getParameterTypes()));
            for (Class<?> thrown : method.getExceptionTypes()) {
                text.append(' ').append(thrown.getSimpleName());
            }
            found.add(text.toString());
        }
        return lines(found);
    }

    private static String constructors() {
        TreeSet<String> found = new TreeSet<>();
        for (Constructor<?> constructor : LooseHeap.class.getDeclaredConstructors()) {
            found.add(Modifier.toString(constructor.getModifiers()) + " "
                    + parameters(constructor.getParameterTypes()));
        }
        return lines(found);
    }

    private static String fields() {
        TreeSet<String> found = new TreeSet<>();
        for (Field field : LooseHeap.class.getDeclaredFields()) {
            if (!Modifier.isPrivate(field.getModifiers())) {
                found.add(Modifier.toString(field.getModifiers()) + " "
                        + field.getType().getSimpleName() + " " + field.getName());
            }
        }
        return lines(found);
    }

    private static String parameters(Class<?>[] types) {
        StringBuilder text = new StringBuilder("(");
        for (int k = 0; k < types.length; k++) {
            text.append(k == 0 ? "" : ", ").append(types[k].getSimpleName());
        }
        return text.append(")").toString();
    }
}
