import java.io.IOException;

/**
 * The document, a sentence after the other: each that names an edge (the least and the greatest number, the empty and
 * the full text, a call that is refused) has a test of its own, and no sentence is without one.
 */
public final class SentencesTest {
    public static void main(String[] args) throws IOException {
        Checks checks = new Checks();
        Book book = new Book(checks, System.getProperty("lateChecks.document"));
        new TermsSentences(book).all();
        new TextSentences(book).all();
        new ToldSentences(book).all();
        new DealsSentences(book).all();
        new SeenSentences(book).all();
        new Refusals(book, checks).all();
        book.close();
        checks.end("SentencesTest");
    }
}
