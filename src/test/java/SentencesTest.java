import java.io.IOException;
import java.nio.file.Path;

/**
 * A test of its own for each sentence of the document, naming the promise and quoting the sentence; each quotation is
 * looked up in the document, and all words of the Terms and the promises must be quoted. Run from the project's folder.
 */
public final class SentencesTest {
    private static final Path DOCUMENT = Path.of("..", "shared", "DOC.md");

    private SentencesTest() {
    }

    public static void main(String[] args) throws IOException {
        Sentences s = new Sentences(Document.read(DOCUMENT));
        TermsSentences.all(s);
        LanguageSentences.all(s);
        KindsSentences.all(s);
        RowsSentences.all(s);
        TextsSentences.all(s);
        GuestsSentences.all(s);
        DeedsSentences.all(s);
        LivesSentences.all(s);
        TurnToldSentences.all(s);
        WhoseSecondSentences.all(s);
        BillsSentences.all(s);
        LotsSentences.all(s);
        ToldSentences.all(s);
        CountsSentences.all(s);
        s.end();
    }
}
