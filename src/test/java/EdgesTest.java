import java.nio.file.Files;
import java.nio.file.Path;

/** The document's edges, sentence by sentence: each that names one is quoted by a test of its own. */
public final class EdgesTest {
    public static void main(String[] args) throws Exception {
        Path path = Path.of("..", "shared", "DOC.md");
        if (!Files.exists(path)) {
            System.out.println("without " + path + " the quotes are not held against it");
        }
        Document document = new Document(path);
        Due due = new Due();
        Edge edge = new Edge(document, due);
        Edges[] all = {new EdgesOfTerms(edge), new EdgesOfWords(edge), new EdgesOfSaying(edge), new EdgesOfSigns(edge),
            new EdgesOfHistories(edge), new EdgesOfOdds(edge), new EdgesOfPoets(edge), new EdgesOfSeeking(edge),
            new EdgesOfKeeping(edge)};
        for (Edges edges : all) {
            edges.run();
        }
        due.about("all promises");
        for (String words : document.unquoted()) {
            due.is("a test of its own for " + words, false, true);
        }
        due.finish();
    }
}
