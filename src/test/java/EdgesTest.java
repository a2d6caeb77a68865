import java.io.IOException;
import java.util.List;

/** Every sentence of the document that tells an edge has a test of its own; run from the project's folder. */
public final class EdgesTest {
    private EdgesTest() {
    }

    public static void main(String[] args) throws IOException {
        Edges edges = new Edges();
        List<EdgeGroup> groups = List.of(new DepotEdges(edges), new TextEdges(edges), new DoneEdges(edges),
            new ComingEdges(edges), new SightEdges(edges), new SleepEdges(edges), new KindEdges(edges));
        groups.forEach(EdgeGroup::all);
        edges.end();
    }
}
