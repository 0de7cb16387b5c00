import java.io.IOException;
import java.lang.reflect.Field;
import java.lang.reflect.Method;
import java.lang.reflect.Modifier;
import java.nio.file.Files;
import java.nio.file.Path;
import java.util.List;
import java.util.regex.Matcher;
import java.util.regex.Pattern;
import java.util.stream.Collectors;
import java.util.stream.Stream;

/** README.md tells the truth: its example answers what it says, and no call, constant or test is left out. */
public final class ReadmeTest {
    private static final Pattern CALL = Pattern.compile("x\\.(\\w+)\\(([^)]*)\\);(?: +// (-?\\d+)(?::.*)?)?");
    private static final int FEWEST_ANSWERS = 15;

    private static int wrong = 0;

    private ReadmeTest() {
    }

    public static void main(String[] args) throws IOException, ReflectiveOperationException {
        String text = Files.readString(Path.of("README.md"));
        example(text);
        calls(text);
        constants(text);
        tests(text);
        System.out.println(wrong == 0 ? "README.md tells what is so" : wrong + " faults in README.md");
        if (wrong != 0) {
            System.exit(1);
        }
    }

    private static void demand(String what, boolean holds) {
        if (!holds) {
            wrong++;
            System.out.println("README.md: " + what);
        }
    }

    private static void example(String text) throws ReflectiveOperationException {
        int from = text.indexOf("```java\n");
        int to = text.indexOf("\n```\n", from + 1);
        demand("has no example", from >= 0 && to > from);
        if (wrong != 0) {
            return;
        }
        SquareGrounds x = new SquareGrounds();
        int answers = 0;
        for (String line : text.substring(from, to).split("\n")) {
            Matcher call = CALL.matcher(line);
            if (line.startsWith("x.")) {
                demand("a line that this test can't read: " + line, call.matches());
            }
            if (call.matches()) {
                long got = ask(x, call.group(1), call.group(2));
                if (call.group(3) != null) {
                    answers++;
                    demand(line + " answered " + got, got == Long.parseLong(call.group(3)));
                }
            }
        }
        demand("tells " + answers + " answers alone", answers >= FEWEST_ANSWERS);
    }

    private static long ask(SquareGrounds x, String name, String told) throws ReflectiveOperationException {
        Object[] numbers = Stream.of(told.split(", ")).filter(one -> !one.isEmpty()).map(Integer::valueOf).toArray();
        for (Method method : SquareGrounds.class.getMethods()) {
            if (method.getName().equals(name) && method.getParameterCount() == numbers.length) {
                return ((Number) method.invoke(x, numbers)).longValue();
            }
        }
        demand("there is no " + name + "(" + told + ")", false);
        return 0;
    }

    private static void calls(String text) {
        String table = text.substring(text.indexOf("### The calls"), text.indexOf("### What is refused"));
        for (Method method : SquareGrounds.class.getDeclaredMethods()) {
            if (Modifier.isPublic(method.getModifiers())) {
                demand("leaves out " + method.getName(), table.contains("`" + method.getName() + "`"));
            }
        }
    }

    private static void constants(String text) throws IllegalAccessException {
        for (Field field : SquareGrounds.class.getFields()) {
            String constant = "`" + field.getName() + "` " + field.getInt(null);
            demand("leaves out " + constant, text.contains(constant));
        }
    }

    private static void tests(String text) throws IOException {
        List<String> files;
        try (Stream<Path> all = Files.list(Path.of("src/test/java"))) {
            files = all.map(file -> file.getFileName().toString()).collect(Collectors.toList());
        }
        for (String file : files) {
            demand("leaves out " + file, text.contains("| `" + file.replace(".java", "") + "` |"));
        }
        Matcher told = Pattern.compile("\\| `(\\w+Test)` \\|").matcher(text);
        while (told.find()) {
            demand("there is no " + told.group(1), files.contains(told.group(1) + ".java"));
        }
        demand("does not say how tests are run", text.contains("\n    .ci/run\n"));
    }
}
