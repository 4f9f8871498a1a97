import java.io.IOException;
import java.lang.reflect.InvocationTargetException;
import java.lang.reflect.Method;
import java.nio.file.Files;
import java.nio.file.Path;
import java.util.ArrayList;
import java.util.Comparator;
import java.util.LinkedHashMap;
import java.util.List;
import java.util.Map;

/** Runs the tests of single sentences, and sees that no sentence of a promise is without one. */
public final class SentencesTest {
    private static final Path DOCUMENT = Path.of("../shared/DOC.md");
    private static final int PROMISES = 23;
    private static final List<Class<?>> GROUPS = List.of(SurdSentences.class, ConvergentSentences.class,
            SquaresSentences.class, BookSentences.class, TextSentences.class, ChangesSentences.class);

    private SentencesTest() {
    }

    public static void main(String[] args) throws IOException {
        List<Method> tests = tests();
        for (Method test : tests) {
            run(test);
        }
        System.out.println(tests.size() + " tests of sentences were run");
        if (Files.isRegularFile(DOCUMENT)) {
            compareWithDocument(sections(Files.readAllLines(DOCUMENT)), tests);
        } else {
            System.out.println("there is no " + DOCUMENT + " to compare the sentences with");
        }
        Due.end();
    }

    static List<Method> tests() {
        List<Method> tests = new ArrayList<>();
        for (Class<?> group : GROUPS) {
            for (Method method : group.getDeclaredMethods()) {
                if (method.isAnnotationPresent(Says.class)) {
                    tests.add(method);
                }
            }
        }
        tests.sort(Comparator.comparing(Method::toString));
        return tests;
    }

    /** Tells whether the test of this name finds the program as it should not be; it says nothing of it. */
    static boolean isBroken(String name) {
        Due.keepSilent();
        for (Method test : tests()) {
            if (test.getName().equals(name)) {
                run(test);
            }
        }
        return Due.isWrong();
    }

    private static void run(Method test) {
        int before = Due.wrongOnes();
        try {
            test.invoke(null);
        } catch (InvocationTargetException thrown) {
            Due.tell("threw " + thrown.getCause());
        } catch (IllegalAccessException hidden) {
            Due.tell("can't be called: " + hidden);
        }
        if (Due.wrongOnes() > before) {
            Says says = test.getAnnotation(Says.class);
            Due.tell("  that was " + test.getName() + ", as " + says.in() + " says: " + says.value());
        }
    }

    /** The lines of each section, by the words of its heading up to a colon. */
    private static Map<String, List<String>> sections(List<String> lines) {
        Map<String, List<String>> sections = new LinkedHashMap<>();
        List<String> section = new ArrayList<>();
        for (String line : lines) {
            if (line.startsWith("#")) {
                section = sections.computeIfAbsent(line.replaceAll("^#+ |:.*", ""), heading -> new ArrayList<>());
            } else {
                section.add(line);
            }
        }
        return sections;
    }

    private static void compareWithDocument(Map<String, List<String>> sections, List<Method> tests) {
        for (Method test : tests) {
            Says says = test.getAnnotation(Says.class);
            String section = String.join("\n", sections.getOrDefault(says.in(), List.of()));
            Due.holds(says.in() + " does not say: " + says.value(), section.contains(says.value()));
        }
        for (int promise = 1; promise <= PROMISES; promise++) {
            String name = "Promise " + promise;
            Due.holds(name + " is not in the document", sections.containsKey(name));
            for (String line : sections.getOrDefault(name, List.of())) {
                eachSentenceHasATest(name, line, tests);
            }
        }
    }

    private static void eachSentenceHasATest(String promise, String line, List<Method> tests) {
        if (line.startsWith("- ")) {
            hasATest(promise, line.substring(2), tests);
        } else if (line.startsWith("Returns ")) {
            for (String sentence : line.replaceAll("\\.$", "").split("; ")) {
                hasATest(promise, sentence, tests);
            }
        }
    }

    private static void hasATest(String promise, String sentence, List<Method> tests) {
        for (Method test : tests) {
            Says says = test.getAnnotation(Says.class);
            if (says.in().equals(promise) && says.value().equals(sentence)) {
                return;
            }
        }
        Due.tell(promise + " has no test of: " + sentence);
    }
}
