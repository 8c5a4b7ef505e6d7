import java.io.IOException;

/** Each sentence of the document that names an edge, by its own words; a sentence without a test is a fault, too. */
public final class EdgesTest {
    public static void main(String[] args) throws IOException {
        Edges edges = new Edges();
        new TextEdges(edges).run();
        new LoanEdges(edges).run();
        new MetEdges(edges).run();
        new GivenEdges(edges).run();
        new LateEdges(edges).run();
        new BookEdges(edges).run();
        new RefusedEdges(edges).run();
        edges.finish();
    }
}
