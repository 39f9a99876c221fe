import java.io.IOException;

/** The document's boundary cases, sentence by sentence. */
final class EdgesTest {
    private EdgesTest() { }

    public static void main(String[] args) throws IOException {
        Edge edge = new Edge();
        TextEdges.all(edge);
        TickEdges.all(edge);
        DoneEdges.all(edge);
        AskedEdges.all(edge);
        RefusedEdges.all(edge);
        edge.end();
    }
}
