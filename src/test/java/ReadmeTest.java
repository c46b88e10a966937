import java.lang.reflect.Method;
import java.lang.reflect.Modifier;
import java.nio.file.Files;
import java.nio.file.Path;
import java.util.regex.Matcher;
import java.util.regex.Pattern;

/** README.md tells the truth: its example answers what it says, and it names every call, constant and test. */
public final class ReadmeTest {
    private static final Check CHECK = new Check();
    private static final Pattern TEXT = Pattern.compile("String text = \"([^\"]*)\";");
    private static final Pattern CALL = Pattern.compile("^x\\.(\\w+)\\(([-\\d, ]*)\\); +// (-?\\d+)");

    public static void main(String[] args) throws Exception {
        Path file = Path.of(System.getProperty("gatechain.readme", "README.md"));
        String readme = Files.readString(file);
        example(readme);
        face(readme);
        tests(readme, file.toAbsolutePath().getParent().resolve("src/test/java"));
        CHECK.end();
    }

    private static void example(String readme) throws Exception {
        int from = readme.indexOf("```java");
        int to = readme.indexOf("```", from + 3);
        CHECK.due("README.md has an example", from >= 0 && to > from ? 1 : 0, 1);
        String block = readme.substring(Math.max(from, 0), Math.max(to, 0));
        Matcher text = TEXT.matcher(block);
        CHECK.due("the example has a text", text.find() ? 1 : 0, 1);
        GateChain x = new GateChain();
        Check.put(x, text.group(1));
        int calls = 0;
        int lines = 0;
        for (String line : block.split("\n")) {
            lines += line.startsWith("x.") ? 1 : 0;
            Matcher call = CALL.matcher(line);
            if (call.find()) {
                calls++;
                CHECK.due("README.md: " + line, answer(x, call.group(1), call.group(2)), Long.parseLong(call.group(3)));
            }
        }
        CHECK.due("lines of the example with what they answer", calls, lines);
        CHECK.due("the example has such lines", calls > 0 ? 1 : 0, 1);
    }

    private static long answer(GateChain x, String name, String numbers) throws Exception {
        String[] told = numbers.isBlank() ? new String[0] : numbers.trim().split(" *, *");
        Class<?>[] types = new Class<?>[told.length];
        Object[] values = new Object[told.length];
        for (int i = 0; i < told.length; i++) {
            types[i] = int.class;
            values[i] = Integer.valueOf(told[i]);
        }
        return ((Number) GateChain.class.getMethod(name, types).invoke(x, values)).longValue();
    }

    private static void face(String readme) {
        for (Method m : GateChain.class.getDeclaredMethods()) {
            if (Modifier.isPublic(m.getModifiers())) {
                Pattern call = Pattern.compile("`" + m.getName() + "\\(([^)]*)\\)`");
                Matcher found = call.matcher(readme);
                boolean isNamed = found.find();
                CHECK.due("README.md names " + m.getName(), isNamed ? 1 : 0, 1);
                int told = isNamed && !found.group(1).isEmpty() ? found.group(1).split(",").length : 0;
                CHECK.due("what README.md gives to " + m.getName(), told, m.getParameterCount());
            }
        }
        for (String name : new String[] {"BAD", "STATE", "FULL", "NONE", "NO"}) {
            CHECK.due("README.md names " + name, readme.contains("`" + name + "`") ? 1 : 0, 1);
        }
    }

    private static void tests(String readme, Path folder) throws Exception {
        try (var files = Files.newDirectoryStream(folder, "*Test.java")) {
            for (Path test : files) {
                String name = test.getFileName().toString().replace(".java", "");
                CHECK.due("README.md names " + name, readme.contains(name) ? 1 : 0, 1);
            }
        }
    }
}
