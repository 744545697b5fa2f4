import java.io.IOException;
import java.nio.file.Path;

/** For each sentence of the document that names a boundary case, a test of its own. */
public final class EdgesTest {
    public static void main(String[] args) throws IOException {
        Edges edges = new Edges(new Document(Path.of(args.length > 0 ? args[0] : ".")));
        new TextEdges(edges).run();
        new NumbersEdges(edges).run();
        new ActionsEdges(edges).run();
        new WouldBeEdges(edges).run();
        new ScriptsEdges(edges).run();
        edges.end();
    }
}
