import java.io.IOException;

/** A test for each sentence of the document that a promise rests on, and for nothing left out. */
public final class SentenceTest {
    private SentenceTest() {
    }

    public static void main(String[] args) throws IOException {
        Document document = new Document();
        Sentences.begin(document);
        LandSentences.all();
        DaySentences.all();
        CrowdSentences.all();
        WaySentences.all();
        TableSentences.all();
        ThereSentences.all();
        document.checkAll();
        Check.end();
    }
}
