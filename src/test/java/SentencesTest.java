import java.nio.file.Path;

/** Every sentence of the document's Terms and promises, with its edges. */
public final class SentencesTest {
    public static void main(String[] args) throws Exception {
        Sentences s = new Sentences(Path.of("../shared/DOC.md"));
        EdgesOfTexts.all(s);
        EdgesOfMinutes.all(s);
        EdgesByHand.all(s);
        EdgesOfPlans.all(s);
        EdgesOfTelling.all(s);
        s.end("sentences");
    }
}
