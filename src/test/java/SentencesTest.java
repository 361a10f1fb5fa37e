import java.nio.file.Path;

/** Each sentence of the document has a test of its own, and is quoted by it; see Sentences. */
public final class SentencesTest {
    public static void main(String[] args) throws Exception {
        Sentences s = new Sentences(Path.of("../shared/DOC.md"));
        new TextSentences(s).all();
        new TermSentences(s).all();
        new ActSentences(s).all();
        new LookSentences(s).all();
        if (!s.end()) {
            System.exit(1);
        }
    }
}
