import java.io.IOException;
import java.lang.reflect.Field;
import java.lang.reflect.Method;
import java.lang.reflect.Modifier;
import java.nio.file.Files;
import java.nio.file.Path;
import java.util.Arrays;
import java.util.regex.Matcher;
import java.util.regex.Pattern;

/** README.md: its example answers what stands behind each of its calls, and its table has every call of the face. */
public final class ReadmeTest {
    private static final Check CHECK = new Check();
    private static final Pattern TEXT = Pattern.compile("String text = \"([^\"]*)\";");
    private static final Pattern CALL = Pattern.compile("(?m)^x\\.(\\w+)\\(([^)]*)\\);\\s*// (-?\\d+|[A-Z]+)\\b");

    public static void main(String[] args) throws IOException, ReflectiveOperationException {
        String readme = Files.readString(Path.of("README.md"));
        CHECK.part("README.md");
        example(readme);
        table(readme);
        howToRunTests(readme);
        CHECK.end();
    }

    private static void example(String readme) throws ReflectiveOperationException {
        Matcher text = TEXT.matcher(readme);
        if (!text.find()) {
            CHECK.fail("there is no text in the example");
            return;
        }
        EightWays x = new EightWays();
        Check.feed(x, text.group(1));
        Matcher call = CALL.matcher(readme);
        int calls = 0;
        while (call.find()) {
            calls++;
            CHECK.due(call.group(), answer(x, call.group(1), call.group(2)), number(call.group(3)));
        }
        CHECK.due("lines of the example that were tried", calls, readme.lines().filter(l -> l.startsWith("x.")).count());
        CHECK.due("the example has calls", calls > 10 ? 1 : 0, 1);
    }

    private static int answer(EightWays x, String name, String arguments) throws ReflectiveOperationException {
        Object[] given = Arrays.stream(arguments.split(",")).map(String::trim).filter(a -> !a.isEmpty())
            .map(a -> a.startsWith("'") ? (int) a.charAt(1) : Integer.parseInt(a)).toArray();
        Class<?>[] types = new Class<?>[given.length];
        Arrays.fill(types, int.class);
        return (Integer) EightWays.class.getMethod(name, types).invoke(x, given);
    }

    private static int number(String word) throws ReflectiveOperationException {
        if (!Character.isLetter(word.charAt(0))) {
            return Integer.parseInt(word);
        }
        Field constant = EightWays.class.getField(word);
        return constant.getInt(null);
    }

    private static void table(String readme) {
        int rows = 0;
        for (Method m : EightWays.class.getDeclaredMethods()) {
            if (Modifier.isPublic(m.getModifiers())) {
                rows++;
                Matcher row = Pattern.compile("(?m)^\\| `" + m.getName() + "\\(([^)]*)\\)` \\|").matcher(readme);
                CHECK.due("rows for " + m.getName(), row.find() ? argumentsIn(row.group(1)) : -1, m.getParameterCount());
            }
        }
        CHECK.due("rows of the table", readme.lines().filter(l -> l.startsWith("| `")).count(), rows);
    }

    private static int argumentsIn(String list) {
        return list.isBlank() ? 0 : list.split(",").length;
    }

    /** Each test of the project is named, so that one who reads knows what is tried where. */
    private static void howToRunTests(String readme) throws IOException {
        CHECK.due("says how to run the tests", readme.contains("bash .ci/run") ? 1 : 0, 1);
        try (var files = Files.list(Path.of("src/test/java"))) {
            files.map(f -> f.getFileName().toString()).filter(n -> n.endsWith("Test.java")).forEach(n -> {
                String name = n.substring(0, n.length() - ".java".length());
                CHECK.due("names " + name, readme.contains("`" + name + "`") ? 1 : 0, 1);
            });
        }
    }
}
