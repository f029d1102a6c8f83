import java.io.IOException;
import java.nio.file.Files;
import java.nio.file.Path;
import java.util.List;
import java.util.regex.Matcher;
import java.util.regex.Pattern;

/** What of LANGUAGE.md can be seen in the source's words and lines; run from the project's folder. */
public final class LanguageTest {
    private static final Checks c = new Checks("LanguageTest");
    private static final List<String> NEVER = List.of("\\bthrow\\b", "\\bthrows\\b", "\\btry\\b", "\\bcatch\\b",
        "\\bfinally\\b", "\\bsynchronized\\b", "\\bassert\\b", "\\bimport\\b", "\\bpackage\\b", "->", "::",
        "Exact\\b", "\\bhashCode\\b", "\\btoString\\b", "\\bprotected\\b", "\\bstatic\\s*\\{",
        "\\bwhile\\s*\\(\\s*true",
        "for\\s*\\(\\s*;;", "\\bObject\\b", "\\bThread\\b", "\\bRandom\\b", "currentTimeMillis", "nanoTime");

    private static String withoutComments(String source) {
        return source.replaceAll("(?s)/\\*.*?\\*/", "").replaceAll("//[^\n]*", "");
    }

    private static void words(String code) {
        for (String word : NEVER) {
            Matcher m = Pattern.compile(word).matcher(code);
            c.due("the source has " + word, m.find() ? 1 : 0, 0);
        }
        Matcher library = Pattern.compile("\\b(System|Math|Integer|Long|Arrays)\\.(\\w+)").matcher(code);
        List<String> fine = List.of("System.arraycopy", "Math.max", "Math.min", "Integer.bitCount");
        while (library.find()) {
            c.due("the source uses " + library.group(), fine.contains(library.group()) ? 1 : 0, 1);
        }
    }

    private static void signs(String source) {
        for (int i = 0; i < source.length(); i++) {
            if (source.charAt(i) > 126) {
                c.due("a sign beyond 126 at " + i, 1, 0);
            }
        }
    }

    /** A method begins four or eight blanks deep and ends with a brace as deep. */
    private static void methods(String code) {
        String head = "(?m)^(    |        )(?:public |private |static |final )*[\\w\\[\\]]+ ?\\w*\\(([^)]*)\\) \\{$";
        Matcher m = Pattern.compile(head).matcher(code);
        int seen = 0;
        while (m.find()) {
            seen++;
            int end = code.indexOf("\n" + m.group(1) + "}\n", m.end() - 1);
            long lines = code.substring(m.start(), end).lines().count();
            c.due("lines of " + m.group().trim() + " " + lines, lines > 60 ? 1 : 0, 0);
            c.due("parameters of " + m.group().trim(), m.group(2).split(",").length > 7 ? 1 : 0, 0);
        }
        c.due("methods were seen", seen > 90 ? 1 : 0, 1);
    }

    private static void sizes(String code) {
        long classes = Pattern.compile("\\b(class|enum|record|interface) \\w+").matcher(code).results().count();
        c.due("classes " + classes, classes <= 12 ? 1 : 0, 1);
    }

    public static void main(String[] args) throws IOException {
        String source = Files.readString(Path.of("src/main/java/SecondRoom.java"));
        String code = withoutComments(source);
        words(code);
        signs(source);
        methods(code);
        sizes(code);
        c.end();
    }
}
