import java.io.IOException;

/**
 * The document sentence by sentence: each test names the promise and the sentence, which must stand in
 * the document, and in the end no sentence of a promise or of the terms may be left without a test.
 */
public final class SentencesTest {
    private final Due due = new Due();
    private final Document document;

    private SentencesTest() throws IOException {
        document = new Document();
    }

    public static void main(String[] args) throws IOException {
        SentencesTest test = new SentencesTest();
        TextSentences.test(test);
        SchemaSentences.test(test);
        ReadSentences.test(test);
        ModelSentences.test(test);
        WaysSentences.test(test);
        test.due.answers("sentences without a test", "[]", test.document.unnamed().toString());
        test.due.end();
    }

    /** A test of a sentence that stands under a promise, or under the terms and bears on the promise. */
    Case of(int promise, String sentence) {
        String title = "promise " + promise + ", \"" + sentence + "\"";
        due.is(title + " stands in the document", 1, () -> Due.one(document.name(promise, sentence)));
        return new Case(due, title);
    }
}
