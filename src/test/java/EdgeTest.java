import java.io.IOException;
import java.nio.file.Files;
import java.nio.file.Path;

/**
 * Each sentence of the document that names an edge has its test here, by its own words. The arguments are the paths
 * of the source, which is not looked at, and of the document.
 */
final class EdgeTest {
    public static void main(String[] args) throws IOException {
        Edges edges = new Edges();
        new TermsEdges(edges).all();
        new DayEdges(edges).all();
        new StoresEdges(edges).all();
        new ThingsEdges(edges).all();
        new LiquorEdges(edges).all();
        new TellEdges(edges).all();
        new AheadEdges(edges).all();
        Path document = Path.of(args[1]);
        if (Files.isRegularFile(document)) {
            new Document(document).isCovered(edges.words(), edges.checks());
        } else {
            System.out.println("EdgeTest: no document at " + document + ", so its words are not looked up");
        }
        edges.checks().end("EdgeTest");
    }
}
