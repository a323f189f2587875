import java.io.IOException;
import java.lang.reflect.Method;
import java.lang.reflect.Modifier;
import java.nio.file.Files;
import java.nio.file.Path;
import java.util.List;
import java.util.regex.Matcher;
import java.util.regex.Pattern;

/** README.md's example answers as README.md says, and its tables tell each call, setting, code and test. */
public final class ReadmeTest extends Checks {
    private static final Path README = Path.of("README.md");
    private static final Pattern TEXT = Pattern.compile("\"([^\"]*)\"\\.toCharArray\\(\\)");
    private static final Pattern CALL = Pattern.compile("^river\\.(\\w+)\\((.*?)\\); +// (-?\\w+)\\b.*");

    private static List<String> lines;

    public static void main(String[] args) throws IOException {
        lines = Files.readAllLines(README);
        runAll(ReadmeTest.class);
    }

    private static void example() throws ReflectiveOperationException {
        start("README's example");
        OxbowReaches river = new OxbowReaches();
        int end = lines.indexOf("```sh");
        for (String line : lines.subList(lines.indexOf("```java"), end)) {
            Matcher text = TEXT.matcher(line);
            if (text.find()) {
                for (char sign : text.group(1).toCharArray()) {
                    river.put(sign);
                }
            }
            Matcher call = CALL.matcher(line);
            if (call.matches()) {
                due(line, answer(river, call.group(1), call.group(2)), number(call.group(3)));
            } else if (line.startsWith("river.")) {
                due(line + " has an answer", 0, 1);
            }
        }
    }

    private static int answer(OxbowReaches river, String name, String given) throws ReflectiveOperationException {
        String[] texts = given.isEmpty() ? new String[0] : given.split(", ");
        Object[] arguments = new Object[texts.length];
        for (int k = 0; k < texts.length; k++) {
            arguments[k] = texts[k].matches("true|false") ? (Object) texts[k].equals("true") : number(texts[k]);
        }
        for (Method method : OxbowReaches.class.getMethods()) {
            if (method.getName().equals(name) && method.getParameterCount() == texts.length) {
                return (int) method.invoke(river, arguments);
            }
        }
        throw new NoSuchMethodException(name);
    }

    private static int number(String text) throws ReflectiveOperationException {
        if (text.matches("-?\\d+")) {
            return Integer.parseInt(text);
        }
        return OxbowReaches.class.getField(text.replace("OxbowReaches.", "")).getInt(null);
    }

    private static void calls() {
        start("README's table of calls");
        for (Method method : OxbowReaches.class.getDeclaredMethods()) {
            if (Modifier.isPublic(method.getModifiers())) {
                dueRow("\\| .*`" + method.getName() + "`.* \\| .*");
            }
        }
    }

    private static void settings() {
        start("README's table of settings");
        String[] names = {"FLOW", "HARD", "NECK", "SILT"};
        int[] highest = {9, 60, 20, 50};
        OxbowReaches river = new OxbowReaches();
        for (int k = 0; k < names.length; k++) {
            dueRow("\\| `" + names[k] + "` \\| 1 to " + highest[k] + " \\| " + river.count(12 + k) + " \\| .*");
        }
    }

    private static void codes() {
        start("README's table of codes");
        String[] names = {"NO_SUCH", "BAD_VALUE", "BAD_TEXT", "TOO_MANY", "NOT_POSSIBLE", "NONE"};
        for (int k = 0; k < names.length; k++) {
            dueRow("\\| `" + names[k] + "` \\| " + (-1 - k) + " \\| .*");
        }
    }

    private static void tests() throws IOException {
        start("README's list of tests");
        try (var files = Files.list(Path.of("src/test/java"))) {
            files.map(file -> file.getFileName().toString().replace(".java", ""))
                .filter(name -> name.endsWith("Test"))
                .forEach(name -> dueRow("- `.*" + name + "`.*|  `" + name + "`.*"));
        }
    }

    private static void dueRow(String pattern) {
        due("a line like " + pattern, lines.stream().anyMatch(line -> line.matches(pattern)) ? 1 : 0, 1);
    }
}
