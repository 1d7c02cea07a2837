import java.io.IOException;
import java.lang.reflect.Method;
import java.nio.file.Files;
import java.nio.file.Path;
import java.util.regex.Matcher;
import java.util.regex.Pattern;

/** README.md tells the truth: the calls of its example are made, and answer what stands there. */
public final class ReadmeTest {
    private static final Pattern CALL = Pattern.compile("heap\\.(\\w+)\\(([-\\d, ]*)\\);\\s+// (.*)");
    private static final Pattern ANSWER = Pattern.compile("(-?\\d+|true|false): .*");

    private ReadmeTest() {
    }

    public static void main(String[] args) throws IOException, ReflectiveOperationException {
        Check check = new Check();
        LooseHeap heap = new LooseHeap();
        int calls = 0;
        for (String line : Files.readAllLines(Path.of("README.md"))) {
            Matcher call = CALL.matcher(line);
            if (call.matches()) {
                calls++;
                compare(check, line, answer(heap, call.group(1), call.group(2)), call.group(3));
            }
        }
        check.yes("the example has calls", calls > 10);
        check.end();
    }

    private static void compare(Check check, String line, Object got, String comment) {
        Matcher due = ANSWER.matcher(comment);
        // A call without an answer gives null here, and its comment names none.
        check.same(line, got + "\n", (due.matches() ? due.group(1) : "null") + "\n");
    }

    private static Object answer(LooseHeap heap, String name, String list)
            throws ReflectiveOperationException {
        String[] texts = list.isEmpty() ? new String[0] : list.split(", ");
        Class<?>[] types = new Class<?>[texts.length];
        Object[] values = new Object[texts.length];
        for (int k = 0; k < texts.length; k++) {
            types[k] = int.class;
            values[k] = Integer.valueOf(texts[k]);
        }
        Method method = LooseHeap.class.getMethod(name, types);
        return method.invoke(heap, values);
    }
}
