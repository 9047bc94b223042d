import java.io.IOException;
import java.nio.file.Path;

/** Each sentence of the document that names a boundary case has a case of its own here, with its words. */
public final class BoundaryTests {
    public static void main(String[] args) throws IOException {
        Boundaries b = new Boundaries(Path.of("../shared/DOC.md"));
        new BoundariesOfTexts(b).all();
        new BoundariesOfMinutes(b).all();
        new BoundariesOfSets(b).all();
        new BoundariesOfNotes(b).all();
        new BoundariesOfTrials(b).all();
        b.end("BoundaryTests");
    }
}
