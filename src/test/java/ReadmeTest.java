import java.io.File;
import java.io.IOException;
import java.lang.reflect.Method;
import java.lang.reflect.Modifier;
import java.net.URL;
import java.net.URLClassLoader;
import java.nio.file.Files;
import java.nio.file.Path;
import java.util.ArrayList;
import java.util.List;
import java.util.regex.Matcher;
import java.util.regex.Pattern;
import javax.tools.ToolProvider;

/** The example in README.md compiles, shows every call, and tells the answers that they have. */
public final class ReadmeTest {
    private static final Path README = Path.of("README.md");
    private static final Pattern EXAMPLE = Pattern.compile("(?s)```java\n(.*?)```");
    private static final Pattern ANSWERED = Pattern.compile("(x\\.\\w+\\(.*\\)); +// (-?\\d+|[A-Z_]+)(:.*)?");

    private final List<String> calls = new ArrayList<>();
    private final List<Long> due = new ArrayList<>();
    private final StringBuilder program = new StringBuilder();

    private ReadmeTest() {
    }

    public static void main(String[] args) throws IOException, ReflectiveOperationException {
        String readme = Files.readString(README);
        Matcher example = EXAMPLE.matcher(readme);
        Due.holds("README.md has no example", example.find());
        if (!Due.isWrong()) {
            ReadmeTest test = new ReadmeTest();
            test.read(example.group(1));
            test.compare(test.answers());
            test.eachCallIsShown(readme);
        }
        Due.end();
    }

    private void read(String example) throws ReflectiveOperationException {
        for (String line : example.split("\n")) {
            Matcher answered = ANSWERED.matcher(line);
            if (answered.matches()) {
                calls.add(answered.group(1));
                due.add(numberOf(answered.group(2)));
                program.append("answers.add((long) ").append(answered.group(1)).append(");\n");
            } else {
                Due.holds("README.md tells no answer: " + line, !line.startsWith("x."));
                program.append(line).append('\n');
            }
        }
    }

    private static long numberOf(String answer) throws ReflectiveOperationException {
        return Character.isUpperCase(answer.charAt(0)) ? SurdFractions.class.getField(answer).getInt(null)
                : Long.parseLong(answer);
    }

    private void compare(List<?> answers) {
        Due.is("README.md: answered calls", answers.size(), calls.size());
        for (int i = 0; i < Math.min(answers.size(), calls.size()); i++) {
            Due.is("README.md: " + calls.get(i), (Long) answers.get(i), due.get(i));
        }
    }

    private void eachCallIsShown(String readme) {
        for (Method method : SurdFractions.class.getDeclaredMethods()) {
            if (Modifier.isPublic(method.getModifiers())) {
                String call = method.getName() + "(";
                Due.holds("README.md has no example of " + call, calls.stream().anyMatch(shown -> shown.startsWith("x." + call)));
                Due.holds("README.md has no row for " + call, readme.contains("| `" + call));
            }
        }
    }

    private List<?> answers() throws IOException, ReflectiveOperationException {
        Path folder = Files.createTempDirectory("readme");
        Path file = Files.writeString(folder.resolve("Example.java"), "public final class Example {\n"
                + "public static java.util.List<Long> answers() {\n"
                + "java.util.List<Long> answers = new java.util.ArrayList<>();\n" + program + "return answers;\n}\n}\n");
        try (URLClassLoader loader = new URLClassLoader(new URL[] {folder.toUri().toURL()}, ReadmeTest.class.getClassLoader())) {
            int failed = ToolProvider.getSystemJavaCompiler().run(null, null, null, "--release", "17",
                    "-cp", System.getProperty("java.class.path"), "-d", folder.toString(), file.toString());
            Due.is("README.md: compiling the example", failed, 0);
            return failed == 0 ? (List<?>) loader.loadClass("Example").getMethod("answers").invoke(null) : List.of();
        } finally {
            for (File made : folder.toFile().listFiles()) {
                Files.delete(made.toPath());
            }
            Files.delete(folder);
        }
    }
}
