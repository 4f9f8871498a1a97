import java.io.File;
import java.io.IOException;
import java.net.URL;
import java.net.URLClassLoader;
import java.nio.file.Files;
import java.nio.file.Path;
import java.util.ArrayList;
import java.util.Comparator;
import java.util.List;
import java.util.Set;
import java.util.TreeSet;
import java.util.regex.Matcher;
import java.util.regex.Pattern;
import java.util.stream.Collectors;
import java.util.stream.Stream;
import javax.tools.ToolProvider;

/**
 * Breaks the program on purpose, sentence by sentence, and sees that the test of the sentence fails.
 * How it is broken stands in src/test/mutants.txt.
 */
public final class MutantsTest {
    private static final Path SOURCE = Path.of("src/main/java/SurdFractions.java");
    private static final Path MUTANTS = Path.of("src/test/mutants.txt");
    private static final long MOST_MILLISECONDS = 60000;

    /** Lines of the source, and what stands in their place, for one test to find. */
    private record Mutant(int line, String test, List<String> from, List<String> to) {
    }

    private MutantsTest() {
    }

    public static void main(String[] args) throws IOException {
        List<Mutant> mutants = read(Files.readAllLines(MUTANTS));
        eachTestHasAMutant(mutants);
        String source = Files.readString(SOURCE);
        Path folder = Files.createTempDirectory("mutants");
        List<String> faults = mutants.parallelStream().map(mutant -> faultOf(mutant, source, folder))
                .filter(fault -> !fault.isEmpty()).collect(Collectors.toList());
        delete(folder);
        for (String fault : faults) {
            Due.tell(fault);
        }
        System.out.println(mutants.size() + " broken programs were tested");
        Due.end();
    }

    /** A line with a test's name, then lines with "-" that are to be found, then lines with "+" in their place. */
    private static List<Mutant> read(List<String> lines) {
        List<Mutant> mutants = new ArrayList<>();
        String test = "";
        Mutant last = null;
        for (int i = 0; i < lines.size(); i++) {
            String line = lines.get(i).strip();
            if (line.startsWith("-")) {
                if (last == null || !last.to.isEmpty()) {
                    last = new Mutant(i + 1, test, new ArrayList<>(), new ArrayList<>());
                    mutants.add(last);
                }
                last.from.add(line.substring(1).strip());
            } else if (line.startsWith("+") && last != null) {
                last.to.add(line.substring(1).strip());
            } else if (!line.isEmpty() && !line.startsWith("#")) {
                test = line;
                last = null;
            }
        }
        return mutants;
    }

    private static void eachTestHasAMutant(List<Mutant> mutants) {
        Set<String> tests = new TreeSet<>();
        SentencesTest.tests().forEach(test -> tests.add(test.getName()));
        Set<String> met = new TreeSet<>();
        mutants.forEach(mutant -> met.add(mutant.test));
        for (String test : tests) {
            Due.holds(MUTANTS + " has none for " + test, met.contains(test));
        }
        for (String test : met) {
            Due.holds(MUTANTS + " names a test that is not there: " + test, tests.contains(test));
        }
    }

    /** Tells what is wrong with the mutant or its test, or nothing. */
    private static String faultOf(Mutant mutant, String source, Path folder) {
        String name = MUTANTS + ":" + mutant.line + ": " + mutant.test + " ";
        String lines = mutant.from.stream().map(Pattern::quote).collect(Collectors.joining("\\s*\\n\\s*"));
        Matcher place = Pattern.compile(lines).matcher(source);
        if (!place.find()) {
            return name + "is to be broken by lines that are not in the source";
        }
        int start = place.start();
        int end = place.end();
        if (place.find()) {
            return name + "is to be broken by lines that are in the source more than once";
        }
        String broken = source.substring(0, start) + String.join("\n", mutant.to) + source.substring(end);
        try {
            Path classes = Files.createDirectory(folder.resolve(String.valueOf(mutant.line)));
            return compile(broken, classes) ? fault(mutant, name, classes) : name + "is broken by lines that are no Java";
        } catch (IOException failed) {
            return name + "could not be tried: " + failed;
        }
    }

    private static boolean compile(String source, Path folder) throws IOException {
        Path file = Files.writeString(folder.resolve("SurdFractions.java"), source);
        return ToolProvider.getSystemJavaCompiler().run(null, Files.newOutputStream(folder.resolve("out")),
                Files.newOutputStream(folder.resolve("err")), "--release", "17", "-d", folder.toString(), file.toString()) == 0;
    }

    private static String fault(Mutant mutant, String name, Path classes) {
        boolean[] finds = new boolean[1];
        Thread trial = new Thread(() -> finds[0] = findsItBroken(mutant.test, classes));
        trial.setDaemon(true);
        trial.start();
        try {
            trial.join(MOST_MILLISECONDS);
        } catch (InterruptedException interrupted) {
            return name + "was interrupted";
        }
        if (trial.isAlive()) {
            return name + "does not end";
        }
        return finds[0] ? "" : name + "does not find the broken program wrong";
    }

    private static boolean findsItBroken(String test, Path classes) {
        try {
            List<URL> places = new ArrayList<>(List.of(classes.toUri().toURL()));
            for (String place : System.getProperty("java.class.path").split(File.pathSeparator)) {
                places.add(Path.of(place).toUri().toURL());
            }
            try (URLClassLoader loader = new URLClassLoader(places.toArray(new URL[0]), ClassLoader.getPlatformClassLoader())) {
                var isBroken = loader.loadClass("SentencesTest").getDeclaredMethod("isBroken", String.class);
                isBroken.setAccessible(true);
                return (boolean) isBroken.invoke(null, test);
            }
        } catch (IOException | ReflectiveOperationException failed) {
            return false;
        }
    }

    private static void delete(Path folder) throws IOException {
        try (Stream<Path> files = Files.walk(folder)) {
            for (Path file : files.sorted(Comparator.reverseOrder()).collect(Collectors.toList())) {
                Files.delete(file);
            }
        }
    }
}
