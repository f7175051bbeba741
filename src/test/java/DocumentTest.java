import java.io.IOException;

/** The document from its first line to its last, without a gap, each piece of it with calls that are held to it. */
public final class DocumentTest {
    public static void main(String[] args) throws IOException {
        Walk walk = new Walk();
        new WalkOfFace(walk).all();
        new WalkOfTerms(walk).all();
        new WalkOfDivisions(walk).all();
        new WalkOfPromises(walk).all();
        walk.end();
    }
}
