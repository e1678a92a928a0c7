import java.nio.file.Files;
import java.nio.file.Path;

/** The document's edges, sentence by sentence: each that names one is quoted by a test of its own. */
public final class EdgesTest {
    public static void main(String[] args) throws Exception {
        Path path = Path.of("..", "shared", "DOC.md");
        if (!Files.exists(path)) {
            System.out.println("without " + path + " the quotes are not held against it");
        }
        Document document = new Document(path);
        Due due = new Due();
        Edge edge = new Edge(document, due);
        new EdgesOfTerms(edge).run();
        new EdgesOfWords(edge).run();
        new EdgesOfSaying(edge).run();
        new EdgesOfSigns(edge).run();
        new EdgesOfHistories(edge).run();
        new EdgesOfOdds(edge).run();
        new EdgesOfPoets(edge).run();
        new EdgesOfSeeking(edge).run();
        new EdgesOfKeeping(edge).run();
        due.about("all promises");
        for (String words : document.unquoted()) {
            due.is("a test of its own for " + words, false, true);
        }
        due.finish();
    }
}
