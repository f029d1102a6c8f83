import java.util.function.Consumer;

/** Runs a test for a sentence of the document, or a part of one, and tells of which if it fails. */
final class Sentences {
    private final Document document;
    private int tests = 0;
    private int checks = 0;
    private int wrong = 0;

    Sentences(Document document) {
        this.document = document;
    }

    void of(int promise, String sentence, Consumer<Checks> test) {
        of("Promise " + promise, sentence, sentence, test);
    }

    void of(int promise, String sentence, String part, Consumer<Checks> test) {
        of("Promise " + promise, sentence, part, test);
    }

    void ofTerms(String sentence, Consumer<Checks> test) {
        of("Terms", sentence, sentence, test);
    }

    void ofTerms(String sentence, String part, Consumer<Checks> test) {
        of("Terms", sentence, part, test);
    }

    void of(String heading, String sentence, String part, Consumer<Checks> test) {
        String name = heading + ", \"" + sentence + "\"" + (part.equals(sentence) ? "" : ", \"" + part + "\"");
        String fault = document.quote(heading, sentence, part);
        if (!fault.isEmpty()) {
            fail(name, fault);
        }
        Checks c = new Checks(name);
        try {
            test.accept(c);
        } catch (RuntimeException e) {
            fail(name, "ended by " + e);
        }
        if (c.made() == 0) {
            fail(name, "nothing was checked");
        }
        tests++;
        checks += c.made();
        wrong += c.wrong();
    }

    private void fail(String name, String why) {
        wrong++;
        System.out.println(name + ": " + why);
    }

    void end() {
        for (String words : document.unquoted()) {
            fail("no test quotes", words);
        }
        System.out.println("SentencesTest: " + tests + " tests, " + checks + " checks, " + wrong + " wrong");
        if (wrong != 0) {
            System.exit(1);
        }
    }
}
