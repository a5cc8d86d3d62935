import java.io.IOException;
import java.lang.reflect.Method;
import java.nio.file.Files;
import java.nio.file.Path;
import java.util.Arrays;
import java.util.regex.Matcher;
import java.util.regex.Pattern;
import java.util.stream.Stream;

/** What README.md says is so: each call of its example gives the number behind it, and no test goes unnamed. */
public final class ReadmeTest extends Checks {
    private static final Pattern CALL = Pattern.compile("x\\.(\\w+)\\(([^)]*)\\); +// (-?\\d+)(:.*)?");

    public static void main(String[] args) throws Exception {
        String readme = Files.readString(Path.of("README.md"));
        example(readme.split("```java\n")[1].split("```")[0]);
        namesAllTests(readme);
        namesAllCalls(readme);
        ends();
    }

    private static void example(String block) throws ReflectiveOperationException {
        PegStrings x = null;
        for (String line : block.split("\n")) {
            label = "README.md: " + line;
            Matcher call = CALL.matcher(line);
            if (line.startsWith("PegStrings x = new PegStrings();")) {
                x = new PegStrings();
            } else if (call.matches()) {
                due("the call", answer(x, call.group(1), call.group(2)), Long.parseLong(call.group(3)));
            } else {
                dueText("a line that is no call", line, "");
            }
        }
    }

    private static long answer(PegStrings x, String name, String given) throws ReflectiveOperationException {
        String[] words = given.isBlank() ? new String[0] : given.split(", *");
        Method method = calls().filter(one -> one.getName().equals(name)).findFirst().orElseThrow();
        Object[] arguments = new Object[words.length];
        for (int i = 0; i < words.length; i++) {
            long number = Long.decode(words[i]);
            // No if-else by ?: here, which would make each number a long one.
            arguments[i] = number;
            if (method.getParameterTypes()[i] == int.class) {
                arguments[i] = (int) number;
            }
        }
        return ((Number) method.invoke(x, arguments)).longValue();
    }

    private static Stream<Method> calls() {
        return Arrays.stream(PegStrings.class.getMethods()).filter(one -> one.getDeclaringClass() == PegStrings.class);
    }

    private static void namesAllTests(String readme) throws IOException {
        label = "README.md";
        try (Stream<Path> files = Files.list(Path.of("src/test/java"))) {
            files.map(file -> file.getFileName().toString().replace(".java", ""))
                .filter(name -> name.endsWith("Test"))
                .forEach(name -> due("names " + name, readme.contains("`" + name + "`") ? 1 : 0, 1));
        }
    }

    private static void namesAllCalls(String readme) {
        label = "README.md";
        calls().forEach(one -> due("names " + one.getName(), readme.contains("`" + one.getName() + "`") ? 1 : 0, 1));
    }
}
