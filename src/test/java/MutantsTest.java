import java.io.File;
import java.io.IOException;
import java.io.OutputStream;
import java.net.URL;
import java.net.URLClassLoader;
import java.nio.file.Files;
import java.nio.file.Path;
import java.util.ArrayList;
import java.util.Comparator;
import java.util.List;
import java.util.Set;
import java.util.TreeSet;
import java.util.regex.Matcher;
import java.util.regex.Pattern;
import java.util.stream.Collectors;
import java.util.stream.Stream;
import javax.tools.ToolProvider;

/**
 * Breaks the program on purpose, sentence by sentence, and sees that the test of the sentence fails.
 * How it is broken stands in src/test/mutants.txt. Lines that are not in the source (any more) are named
 * and passed over: the program may be written otherwise and be right.
 */
public final class MutantsTest {
    private static final Path SOURCE = Path.of("src/main/java/SurdFractions.java");
    private static final Path MUTANTS = Path.of("src/test/mutants.txt");
    private static final long MOST_MILLISECONDS = 60000;

    /** Lines of the source, and what stands in their place, for one test to find. */
    private record Mutant(int line, String test, List<String> from, List<String> to) {
        @Override
        public String toString() {
            return MUTANTS + ":" + line + ": " + test + " ";
        }
    }

    private MutantsTest() {
    }

    public static void main(String[] args) throws IOException {
        List<Mutant> mutants = read(Files.readAllLines(MUTANTS));
        eachTestHasAMutant(mutants);
        String source = Files.readString(SOURCE);
        List<Mutant> fitting = new ArrayList<>();
        for (Mutant mutant : mutants) {
            if (broken(mutant, source).isEmpty()) {
                System.out.println(mutant + "passed over, as its lines are not in the source once");
            } else {
                fitting.add(mutant);
            }
        }
        Path folder = Files.createTempDirectory("mutants");
        fitting.parallelStream().map(mutant -> faultOf(mutant, source, folder)).filter(fault -> !fault.isEmpty())
                .collect(Collectors.toList()).forEach(Due::tell);
        delete(folder);
        System.out.println(fitting.size() + " broken programs were tested");
        Due.end();
    }

    /** A line with a test's name, then lines with "-" that are to be found, then lines with "+" in their place. */
    private static List<Mutant> read(List<String> lines) {
        List<Mutant> mutants = new ArrayList<>();
        String test = "";
        Mutant last = null;
        for (int i = 0; i < lines.size(); i++) {
            String line = lines.get(i).strip();
            if (line.startsWith("-")) {
                if (last == null || !last.to.isEmpty()) {
                    last = new Mutant(i + 1, test, new ArrayList<>(), new ArrayList<>());
                    mutants.add(last);
                }
                last.from.add(line.substring(1).strip());
            } else if (line.startsWith("+") && last != null) {
                last.to.add(line.substring(1).strip());
            } else if (!line.isEmpty() && !line.startsWith("#")) {
                test = line;
                last = null;
            }
        }
        return mutants;
    }

    private static void eachTestHasAMutant(List<Mutant> mutants) {
        Set<String> tests = new TreeSet<>();
        SentencesTest.tests().forEach(test -> tests.add(test.getName()));
        Set<String> met = new TreeSet<>();
        mutants.forEach(mutant -> met.add(mutant.test));
        for (String test : tests) {
            Due.holds(MUTANTS + " has none for " + test, met.contains(test));
        }
        for (String test : met) {
            Due.holds(MUTANTS + " names a test that is not there: " + test, tests.contains(test));
        }
    }

    /** The source with the mutant's lines in it, or nothing if there is not just one place for them. */
    private static String broken(Mutant mutant, String source) {
        String lines = mutant.from.stream().map(Pattern::quote).collect(Collectors.joining("\\s*\\n\\s*"));
        Matcher place = Pattern.compile(lines).matcher(source);
        if (!place.find()) {
            return "";
        }
        String broken = source.substring(0, place.start()) + String.join("\n", mutant.to) + source.substring(place.end());
        return place.find() ? "" : broken;
    }

    /** Tells what is wrong with the mutant or its test, or nothing. */
    private static String faultOf(Mutant mutant, String source, Path folder) {
        try {
            Path classes = Files.createDirectory(folder.resolve(String.valueOf(mutant.line)));
            return compile(broken(mutant, source), classes) ? fault(mutant, classes) : mutant + "is no Java";
        } catch (IOException failed) {
            return mutant + "could not be tried: " + failed;
        }
    }

    private static boolean compile(String source, Path folder) throws IOException {
        Path file = Files.writeString(folder.resolve("SurdFractions.java"), source);
        OutputStream nowhere = OutputStream.nullOutputStream();
        return ToolProvider.getSystemJavaCompiler().run(null, nowhere, nowhere,
                "--release", "17", "-d", folder.toString(), file.toString()) == 0;
    }

    private static String fault(Mutant mutant, Path classes) {
        boolean[] finds = new boolean[1];
        Thread trial = new Thread(() -> finds[0] = findsItBroken(mutant.test, classes));
        trial.setDaemon(true);
        trial.start();
        try {
            trial.join(MOST_MILLISECONDS);
        } catch (InterruptedException interrupted) {
            return mutant + "was interrupted";
        }
        if (trial.isAlive()) {
            return mutant + "does not end";
        }
        return finds[0] ? "" : mutant + "does not find the broken program wrong";
    }

    private static boolean findsItBroken(String test, Path classes) {
        try {
            List<URL> places = new ArrayList<>(List.of(classes.toUri().toURL()));
            for (String place : System.getProperty("java.class.path").split(File.pathSeparator)) {
                places.add(Path.of(place).toUri().toURL());
            }
            try (URLClassLoader loader = new URLClassLoader(places.toArray(new URL[0]), ClassLoader.getPlatformClassLoader())) {
                var isBroken = loader.loadClass("SentencesTest").getDeclaredMethod("isBroken", String.class);
                isBroken.setAccessible(true);
                return (boolean) isBroken.invoke(null, test);
            }
        } catch (IOException | ReflectiveOperationException failed) {
            return false;
        }
    }

    private static void delete(Path folder) throws IOException {
        try (Stream<Path> files = Files.walk(folder)) {
            for (Path file : files.sorted(Comparator.reverseOrder()).collect(Collectors.toList())) {
                Files.delete(file);
            }
        }
    }
}
