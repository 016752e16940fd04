import java.io.IOException;
import java.lang.reflect.InvocationTargetException;
import java.lang.reflect.Method;
import java.nio.file.Files;
import java.nio.file.Path;
import java.util.regex.Matcher;
import java.util.regex.Pattern;

/** Makes the calls that README.md tells, one after another, and asks for the answers told there. */
public final class ReadmeTest {
    private static final Pattern CALL =
        Pattern.compile("x\\.(\\w+)\\(([-0-9, ]*)\\);\\s*// (-?\\w+)(:.*)?");

    public static void main(String[] args) throws IOException, ReflectiveOperationException {
        OrderAxioms x = new OrderAxioms();
        int calls = 0;
        for (String line : Files.readAllLines(Path.of("README.md"))) {
            if (!line.startsWith("x.")) {
                continue;
            }
            Matcher call = CALL.matcher(line);
            Checks.due("README.md: a call with its answer: " + line, call.matches(), true);
            if (call.matches()) {
                String got = answerTo(x, call.group(1), numbersIn(call.group(2)));
                Checks.due("README.md: " + line, got, call.group(3));
            }
            calls++;
        }
        Checks.due("README.md: tells of calls", calls > 0, true);
        Checks.end("ReadmeTest");
    }

    private static Object[] numbersIn(String text) {
        if (text.isBlank()) {
            return new Object[0];
        }
        String[] parts = text.split(",");
        Object[] numbers = new Object[parts.length];
        for (int i = 0; i < parts.length; i++) {
            numbers[i] = Integer.valueOf(parts[i].trim());
        }
        return numbers;
    }

    private static String answerTo(OrderAxioms x, String name, Object[] numbers)
            throws ReflectiveOperationException {
        for (Method method : OrderAxioms.class.getMethods()) {
            if (method.getName().equals(name) && method.getParameterCount() == numbers.length) {
                try {
                    return String.valueOf(method.invoke(x, numbers));
                } catch (InvocationTargetException e) {
                    return "throws." + e.getCause().getClass().getSimpleName();
                }
            }
        }
        return "no such call";
    }
}
