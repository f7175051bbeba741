import java.io.IOException;

/** Each sentence of the document that names an edge: what is taken last, what is refused first, nothing there, no room left. */
public final class EdgesTest {
    public static void main(String[] args) throws IOException {
        Edge edge = new Edge();
        new EdgesOfTerms(edge).all();
        new EdgesOfPapers(edge).all();
        new EdgesOfTexts(edge).all();
        new EdgesOfDivisions(edge).all();
        new EdgesOfDecides(edge).all();
        new EdgesOfTold(edge).all();
        new EdgesOfHost(edge).all();
        edge.end();
    }
}
