import java.nio.file.Path;

/**
 * Each sentence of what the class is, of the terms and of the promises has tests of its own here,
 * and none is without one: what no test quotes is told and fails.
 */
public final class SentencesTest {
    public static void main(String[] args) {
        Check check = new Check();
        Document document = Document.read(Path.of("..", "shared", "DOC.md"));
        Sentences sentences = new Sentences(check, document);
        new TermSentences(sentences).run();
        new FareSentences(sentences).run();
        new BookingSentences(sentences).run();
        new RefundSentences(sentences).run();
        new SeatSentences(sentences).run();
        new JourneySentences(sentences).run();
        for (String words : document.unquoted()) {
            check.holds("a test is of these words: " + words, false);
        }
        check.end();
    }
}
