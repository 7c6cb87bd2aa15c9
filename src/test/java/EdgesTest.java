import java.io.IOException;

/** Each sentence of the document that names an edge, with a test of its own. */
public final class EdgesTest {
    public static void main(String[] args) throws IOException {
        Check check = new Check();
        Edges edges = new Edges(check);
        new EdgesOfTerms(check).run(edges);
        new EdgesOfTheLodge(check).run(edges);
        new EdgesOfWhatThereIs(check).run(edges);
        new EdgesOfWhatWouldBe(check).run(edges);
        edges.dueAllQuoted();
        check.end("EdgesTest");
    }
}
