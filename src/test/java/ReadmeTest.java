import java.io.IOException;
import java.lang.reflect.InvocationTargetException;
import java.lang.reflect.Method;
import java.lang.reflect.Modifier;
import java.net.URL;
import java.net.URLClassLoader;
import java.nio.file.Files;
import java.nio.file.Path;
import java.util.ArrayList;
import java.util.Comparator;
import java.util.List;
import java.util.regex.MatchResult;
import java.util.regex.Matcher;
import java.util.regex.Pattern;
import java.util.stream.Stream;
import javax.tools.ToolProvider;

/** That what README.md says is so: its example, calls, constants, kinds and tests. Run from the project's folder. */
public final class ReadmeTest {
    private static final int PROMISES = 47;
    private static final Path TESTS = Path.of("src", "test", "java");
    /** A line of the example that tells an answer: the call, the answer's number or constant. */
    private static final Pattern ANSWERED = Pattern.compile("(?m)^(x\\.\\w+\\(.*\\));\\s*// (-?\\d+|[A-Z]+): .*$");
    private static final Checks c = new Checks("ReadmeTest");

    private ReadmeTest() {
    }

    /** The only place at which a pattern is found, or "" (which is wrong, and is told). */
    private static String only(String what, String pattern, String in) {
        List<MatchResult> all = all(pattern, in);
        c.due("README.md has one " + what, all.size(), 1);
        return all.size() == 1 ? all.get(0).group(1) : "";
    }

    private static List<MatchResult> all(String pattern, String in) {
        return Pattern.compile(pattern).matcher(in).results().toList();
    }

    private static void same(String what, List<String> got, List<String> want) {
        c.due(what + " " + got + ", due " + want, got.equals(want) ? 1 : 0, 1);
    }

    /** The example as a class whose method answers what each told call answered, and what it tells. */
    private static String exampleClass(String example) {
        String body = ANSWERED.matcher(example).replaceAll(m -> {
            String answer = m.group(2).matches("[A-Z]+") ? "SecondRoom." + m.group(2) : m.group(2);
            return Matcher.quoteReplacement("told.add(new long[] {" + m.group(1) + ", " + answer + "});");
        });
        return "public final class Example {\n"
            + "public static java.util.List<long[]> told() {\n"
            + "java.util.List<long[]> told = new java.util.ArrayList<>();\n"
            + body + "return told;\n}\n}\n";
    }

    private static List<?> run(String source, Path folder) throws IOException, ReflectiveOperationException {
        Path file = folder.resolve("Example.java");
        Files.writeString(file, source);
        int failed = ToolProvider.getSystemJavaCompiler().run(null, null, null,
            "-cp", System.getProperty("java.class.path"), "-d", folder.toString(), file.toString());
        c.due("the example does not compile", failed, 0);
        if (failed != 0) {
            return List.of();
        }
        try (URLClassLoader loader = new URLClassLoader(new URL[] {folder.toUri().toURL()})) {
            return (List<?>) loader.loadClass("Example").getMethod("told").invoke(null);
        } catch (InvocationTargetException e) {
            throw new IllegalStateException("the example was ended", e.getCause());
        }
    }

    private static void delete(Path folder) throws IOException {
        try (Stream<Path> inside = Files.walk(folder)) {
            for (Path p : inside.sorted(Comparator.reverseOrder()).toList()) {
                Files.delete(p);
            }
        }
    }

    /** Each call of the example but put(), which stands in a loop, tells its answer, and answers so. */
    private static void example(String readme) throws IOException, ReflectiveOperationException {
        String example = only("java block", "(?s)```java\n(.*?)```", readme);
        List<MatchResult> lines = ANSWERED.matcher(example).results().toList();
        c.due("calls of the example that tell an answer", lines.size(), all("(?m)^x\\.", example).size());
        c.due("there are such calls", lines.isEmpty() ? 0 : 1, 1);
        Path folder = Files.createTempDirectory("readme");
        try {
            List<?> told = run(exampleClass(example), folder);
            c.due("answers of the example", told.size(), lines.size());
            for (int i = 0; i < told.size() && i < lines.size(); i++) {
                long[] pair = (long[]) told.get(i);
                c.due("README.md's " + lines.get(i).group(1), pair[0], pair[1]);
            }
        } finally {
            delete(folder);
        }
    }

    private static void calls(String readme) {
        String table = only("table of calls", "(?s)\\| of \\| calls \\|\n(.*?)\n\n", readme);
        List<String> named = all("`(\\w+)`", table).stream().map(m -> m.group(1)).sorted().toList();
        List<String> there = Stream.of(SecondRoom.class.getDeclaredMethods())
            .filter(m -> Modifier.isPublic(m.getModifiers())).map(Method::getName).sorted().toList();
        same("README.md's calls", named, there);
    }

    private static void constants(String readme) throws ReflectiveOperationException {
        String table = only("table of constants", "(?s)\\| constant \\|[^\n]*\n(.*?)\n\n", readme);
        List<MatchResult> told = all("(?m)^\\| `(\\w+)` \\| (-\\d+) \\|", table);
        c.due("README.md's constants", told.size(), SecondRoom.class.getFields().length);
        for (MatchResult m : told) {
            c.due(m.group(1), SecondRoom.class.getField(m.group(1)).getInt(null), Integer.parseInt(m.group(2)));
        }
    }

    private static void kinds(String readme) {
        String line = only("line of kinds", "(?m)^(Kinds are .*)$", readme);
        List<MatchResult> told = all("(\\d) \\w+ `(\\w)`", line);
        c.due("README.md's kinds", told.size(), 6);
        for (MatchResult m : told) {
            SecondRoom x = Checks.hotelOf("n2 " + m.group(2) + "000 o0000");
            c.due("the kind of " + m.group(2), x, x.guest(0, 0), 1, Integer.parseInt(m.group(1)));
        }
    }

    private static List<String> testsThere() throws IOException {
        try (Stream<Path> files = Files.list(TESTS)) {
            return files.map(p -> p.getFileName().toString()).filter(n -> n.endsWith("Test.java"))
                .map(n -> n.replace(".java", "")).sorted().toList();
        }
    }

    /** A test of promises says the same numbers in its first line, and all together are all promises. */
    private static void tests(String readme) throws IOException {
        List<MatchResult> rows = all("(?m)^\\| (\\w+Test) \\| (?:promises (\\d+) to (\\d+))?", readme);
        List<String> named = new ArrayList<>();
        int next = 1;
        for (MatchResult m : rows) {
            named.add(m.group(1));
            Path file = TESTS.resolve(m.group(1) + ".java");
            if (m.group(2) == null || !Files.exists(file)) {
                continue;
            }
            c.due("the first promise of " + m.group(1), Integer.parseInt(m.group(2)), next);
            next = Integer.parseInt(m.group(3)) + 1;
            String says = "/** Promises " + m.group(2) + " to " + m.group(3) + ":";
            c.due(m.group(1) + " says " + says, Files.readString(file).startsWith(says) ? 1 : 0, 1);
        }
        c.due("the last promise", next - 1, PROMISES);
        same("README.md's tests", named.stream().sorted().toList(), testsThere());
    }

    public static void main(String[] args) throws IOException, ReflectiveOperationException {
        String readme = Files.readString(Path.of("README.md"));
        example(readme);
        calls(readme);
        constants(readme);
        kinds(readme);
        tests(readme);
        c.end();
    }
}
