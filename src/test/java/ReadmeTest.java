import java.io.IOException;
import java.lang.reflect.Method;
import java.lang.reflect.Modifier;
import java.nio.file.Files;
import java.nio.file.Path;
import java.util.regex.Matcher;
import java.util.regex.Pattern;
import java.util.stream.Stream;

/** README.md: its example answers as it says, and it tells of every call with its parameters, and of every test. */
public final class ReadmeTest {
    private static final Checks C = new Checks();
    private static final Pattern EXAMPLE = Pattern.compile("(?s)```java\n(.*?)```");
    private static final Pattern LINE = Pattern.compile("dots\\.(\\w+)\\(([-\\d, ]*)\\); *// (-?\\d+)(: .*)?");

    public static void main(String[] args) throws IOException, ReflectiveOperationException {
        String page = Files.readString(Path.of("README.md"));
        example(page);
        calls(page);
        tests(page);
        C.end("ReadmeTest");
    }

    private static void example(String page) throws ReflectiveOperationException {
        Matcher example = EXAMPLE.matcher(page);
        C.due("an example", example.find() ? 1 : 0, 1);
        LonelyDots dots = new LonelyDots();
        int answered = 0;
        for (String line : example.group(1).split("\n")) {
            if (line.startsWith("dots.")) {
                Matcher call = LINE.matcher(line);
                C.due("a call and its answer: " + line, call.matches() ? 1 : 0, 1);
                C.due(line, call(dots, call.group(1), call.group(2)), Integer.parseInt(call.group(3)));
                answered++;
            }
        }
        C.due("calls in the example", answered > 20 ? 1 : 0, 1);
    }

    private static int call(LonelyDots dots, String name, String numbers) throws ReflectiveOperationException {
        String[] parts = numbers.isEmpty() ? new String[0] : numbers.split(", ");
        Object[] values = new Object[parts.length];
        Class<?>[] types = new Class<?>[parts.length];
        for (int k = 0; k < parts.length; k++) {
            values[k] = Integer.parseInt(parts[k]);
            types[k] = int.class;
        }
        return (int) LonelyDots.class.getMethod(name, types).invoke(dots, values);
    }

    private static void calls(String page) {
        for (Method method : LonelyDots.class.getDeclaredMethods()) {
            if (Modifier.isPublic(method.getModifiers())) {
                int commas = Math.max(0, method.getParameterCount() - 1);
                String parameters = method.getParameterCount() == 0 ? "" : "\\w+" + ", \\w+".repeat(commas);
                Pattern row = Pattern.compile("(?m)^\\| `" + method.getName() + "\\(" + parameters + "\\)` \\|");
                C.due("a row for " + method.getName(), row.matcher(page).find() ? 1 : 0, 1);
            }
        }
    }

    private static void tests(String page) throws IOException {
        try (Stream<Path> files = Files.list(Path.of("src/test/java"))) {
            for (Path file : files.toList()) {
                String name = file.getFileName().toString().replace(".java", "");
                C.due("a word on " + name, page.contains("`" + name + "`") ? 1 : 0, 1);
            }
        }
    }
}
