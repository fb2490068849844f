import java.io.IOException;
import java.lang.reflect.Method;
import java.lang.reflect.Modifier;
import java.nio.file.Files;
import java.nio.file.Path;
import java.util.List;
import java.util.regex.Matcher;
import java.util.regex.Pattern;

/** README.md shows calls on one object, each with its answer, and tells of every method. */
final class ReadmeTest {
    private static final Pattern SHOWN = Pattern.compile("x\\.(\\w+)\\(([^()]*)\\); +// (-?\\d+)\\b.*");

    private ReadmeTest() {
    }

    static void run(Path readme) throws IOException, ReflectiveOperationException {
        List<String> lines = Files.readAllLines(readme);
        SidingOrders x = new SidingOrders();
        int shown = 0;
        for (String line : lines) {
            if (line.startsWith("x.")) {
                asShown(x, line);
                shown++;
            }
        }
        Check.due("README.md shows calls", shown > 0 ? 1 : 0, 1);
        for (Method method : SidingOrders.class.getDeclaredMethods()) {
            if (Modifier.isPublic(method.getModifiers())) {
                String name = "`" + method.getName() + "`";
                Check.due("README.md tells of " + name, String.join("\n", lines).contains(name) ? 1 : 0, 1);
            }
        }
    }

    private static void asShown(SidingOrders x, String line) throws ReflectiveOperationException {
        Matcher found = SHOWN.matcher(line);
        if (found.matches()) {
            long got = call(x, found.group(1), numbers(found.group(2)));
            Check.due("README.md: " + line, got, Long.parseLong(found.group(3)));
        } else {
            Check.due("README.md, a call without an answer: " + line, 1, 0);
        }
    }

    private static Object[] numbers(String text) {
        String[] parts = text.isEmpty() ? new String[0] : text.split(", ");
        Object[] numbers = new Object[parts.length];
        for (int i = 0; i < parts.length; i++) {
            numbers[i] = parts[i].startsWith("'") ? parts[i].charAt(1) : Integer.parseInt(parts[i]);
        }
        return numbers;
    }

    private static long call(SidingOrders x, String name, Object[] with) throws ReflectiveOperationException {
        for (Method method : SidingOrders.class.getMethods()) {
            if (method.getName().equals(name)) {
                return ((Number) method.invoke(x, with)).longValue();
            }
        }
        throw new NoSuchMethodException(name);
    }
}
