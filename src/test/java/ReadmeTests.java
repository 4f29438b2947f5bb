import java.lang.reflect.Method;
import java.nio.file.Files;
import java.nio.file.Path;
import java.util.List;
import java.util.regex.Matcher;
import java.util.regex.Pattern;

/** README.md: its example answers what it says there, and its table has every call of the class. */
public final class ReadmeTests extends Checks {
    private static final Pattern EXAMPLE = Pattern.compile("x\\.(\\w+)\\((.*)\\); +// (-?\\d+): .*");
    private static final int FEWEST_EXAMPLES = 20;

    public static void main(String[] args) throws Exception {
        asks(0, "README.md says how to use the class");
        List<String> page = Files.readAllLines(Path.of("README.md"));
        example(page);
        for (Method method : SauceredMilk.class.getDeclaredMethods()) {
            if (java.lang.reflect.Modifier.isPublic(method.getModifiers())) inTable(page, method);
        }
        end();
    }

    private static void example(List<String> page) throws Exception {
        SauceredMilk x = new SauceredMilk();
        int tried = 0;
        for (String line : page) {
            Matcher parts = EXAMPLE.matcher(line);
            if (!parts.matches()) {
                due("is no example: " + line, line.startsWith("x.") ? 1 : 0, 0);
                continue;
            }
            due(line, answer(x, parts.group(1), parts.group(2)), Long.parseLong(parts.group(3)));
            tried++;
        }
        due("there are examples: " + tried, tried >= FEWEST_EXAMPLES ? 1 : 0, 1);
    }

    private static long answer(SauceredMilk x, String name, String arguments) throws Exception {
        String[] texts = arguments.isEmpty() ? new String[0] : arguments.split(", ");
        for (Method method : SauceredMilk.class.getMethods()) {
            if (!method.getName().equals(name) || method.getParameterCount() != texts.length) continue;
            Object[] values = new Object[texts.length];
            for (int i = 0; i < texts.length; i++) values[i] = value(texts[i], method.getParameterTypes()[i]);
            return ((Number) method.invoke(x, values)).longValue();
        }
        throw new IllegalArgumentException("no such call: " + name);
    }

    private static Object value(String text, Class<?> type) {
        if (type == boolean.class) return Boolean.valueOf(text);
        if (text.startsWith("'")) return (int) text.charAt(1);
        return Integer.valueOf(text);
    }

    /** With as many names between its brackets as the call has arguments. */
    private static void inTable(List<String> page, Method method) {
        String row = "\\| `" + method.getName() + "\\(" + "\\w+, ".repeat(Math.max(0, method.getParameterCount() - 1))
            + (method.getParameterCount() == 0 ? "" : "\\w+") + "\\)` \\|.*";
        int rows = 0;
        for (String line : page) if (line.matches(row)) rows++;
        due("rows of " + method.getName() + " in the table", rows, 1);
    }
}
