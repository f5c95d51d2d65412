import java.io.IOException;
import java.nio.file.Files;
import java.nio.file.Path;

/** Each sentence of the document that names an edge, with a test of its own. */
public final class EdgesTest {
    public static void main(String[] args) throws IOException {
        Path document = Path.of("../shared/DOC.md");
        boolean isThere = Files.isReadable(document);
        if (!isThere) {
            System.out.println(document + " is not there: the sentences are tested, but not compared with it");
        }
        Sentences sentences = new Sentences(isThere ? Files.readString(document) : "");
        sentences.section("Terms");
        EdgesOfTexts.test(sentences);
        EdgesOfCalls.test(sentences);
        EdgesOfRows.test(sentences);
        EdgesOfDraws.test(sentences);
        EdgesOfAnswers.test(sentences);
        EdgesOfPromises.test(sentences);
        sentences.end();
        Check.end();
    }
}
