import java.io.IOException;
import java.nio.file.Files;
import java.nio.file.Path;
import java.util.ArrayList;
import java.util.LinkedHashMap;
import java.util.List;
import java.util.Map;

/** The document's words, section by section, and which of them are quoted by a test. */
final class Document {
    private static final String HEADING = "## ";
    /** These sections' words must be quoted, all of them. */
    private static final String TERMS = "Terms", PROMISE = "Promise ";

    private final Map<String, String> sections = new LinkedHashMap<>();
    private final Map<String, boolean[]> quoted = new LinkedHashMap<>();

    private Document() {
    }

    static Document read(Path path) throws IOException {
        Document d = new Document();
        String heading = "";
        StringBuilder text = new StringBuilder();
        for (String line : Files.readAllLines(path)) {
            if (line.startsWith(HEADING)) {
                d.add(heading, text.toString());
                heading = line.substring(HEADING.length()).replaceAll("^(Promise \\d+):.*", "$1");
                text.setLength(0);
            } else if (!line.startsWith("```") && !line.startsWith("Ahead of the calls")) {
                text.append(line).append(' ');
            }
        }
        d.add(heading, text.toString());
        return d;
    }

    /** A promise's text begins with the call's head, which FaceTest tests. */
    private void add(String heading, String text) {
        String words = text.replaceAll("\\s+", " ").trim().replaceFirst("^`[^`]*`: ", "");
        sections.put(heading, words);
        quoted.put(heading, new boolean[words.length()]);
    }

    /** Quotes a part of a sentence; what is wrong with the quotation, or "" if it stands there, and once. */
    String quote(String heading, String sentence, String part) {
        String words = sections.getOrDefault(heading, "");
        int start = words.indexOf(sentence);
        if (start < 0 || words.indexOf(sentence, start + 1) >= 0) {
            return "the sentence does not stand just once in " + heading;
        }
        int inside = sentence.indexOf(part);
        if (inside < 0 || sentence.indexOf(part, inside + 1) >= 0) {
            return "the part does not stand just once in the sentence: " + part;
        }
        boolean[] marks = quoted.get(heading);
        for (int i = 0; i < part.length(); i++) {
            marks[start + inside + i] = true;
        }
        return "";
    }

    /** What of the Terms and the promises no test quotes. */
    List<String> unquoted() {
        List<String> left = new ArrayList<>();
        for (String heading : sections.keySet()) {
            if (!heading.equals(TERMS) && !heading.startsWith(PROMISE)) {
                continue;
            }
            StringBuilder unquoted = new StringBuilder();
            boolean[] marks = quoted.get(heading);
            for (int i = 0; i < marks.length; i++) {
                unquoted.append(marks[i] ? '|' : sections.get(heading).charAt(i));
            }
            for (String words : unquoted.toString().split("\\|+")) {
                if (words.matches(".*\\w.*")) {
                    left.add(heading + ": " + words.trim());
                }
            }
        }
        return left;
    }
}
