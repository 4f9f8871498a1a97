import java.io.IOException;
import java.nio.file.Files;
import java.nio.file.Path;
import java.util.List;
import java.util.regex.Matcher;
import java.util.regex.Pattern;

/** What of LANGUAGE.md can be seen from the words of the source alone. */
public final class LanguageTest {
    private static final Path SOURCE = Path.of("src/main/java/SurdFractions.java");
    private static final int MOST_LINES = 60;
    private static final List<String> BANNED = List.of(
            "\\bimport\\b", "\\bpackage\\b", "\\bthrow\\b", "\\bthrows\\b", "\\btry\\b", "\\bcatch\\b", "\\bfinally\\b",
            "\\bsynchronized\\b", "\\bassert\\b", "\\bvolatile\\b", "\\btransient\\b", "\\bnative\\b", "\\bstrictfp\\b",
            "->", "::", "\\bprotected\\b", "Exact\\b", "\\bdouble\\b", "\\bfloat\\b", "\\bThread\\b", "\\bRandom\\b",
            "\\bequals\\b", "\\bhashCode\\b", "\\btoString\\b", "\\bObject\\b",
            "\\bMath\\.(?!(abs|floorDiv|floorMod|max|min)\\b)", "\\bSystem\\.(?!arraycopy\\b)",
            "\\bjava\\.", "\\bstatic\\s*\\{", "@\\w+");
    private static final Pattern METHOD = Pattern.compile("(?m)^ +[\\w<>\\[\\] ]+\\w\\([^;{}=]*\\) \\{$");

    private LanguageTest() {
    }

    public static void main(String[] args) throws IOException {
        String text = Files.readString(SOURCE);
        for (int i = 0; i < text.length(); i++) {
            Due.holds("a sign that is not plain at " + i, text.charAt(i) == '\n' || text.charAt(i) >= ' ' && text.charAt(i) < 127);
        }
        String bare = text.replaceAll("(?s)/\\*.*?\\*/", "").replaceAll("//[^\n]*", "").replaceAll("'[^']+'", "' '");
        for (String word : BANNED) {
            Matcher found = Pattern.compile(word).matcher(bare);
            Due.holds(word + " stands in the source", !found.find());
        }
        methodsAreShort(bare);
        Due.end();
    }

    private static void methodsAreShort(String bare) {
        Matcher method = METHOD.matcher(bare);
        int methods = 0;
        while (method.find()) {
            methods++;
            String head = method.group().strip();
            String indent = method.group().replaceAll("\\S.*", "").replace("\n", "");
            int end = bare.indexOf("\n" + indent + "}\n", method.end());
            long lines = bare.substring(method.start(), end).lines().count();
            Due.holds(head + " has " + lines + " lines", lines <= MOST_LINES);
        }
        Due.holds("the methods were not seen", methods > 22);
    }
}
