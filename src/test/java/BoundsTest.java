import java.io.IOException;
import java.nio.file.Path;

/** Every sentence of the document that names a boundary case, in the document's order. */
public final class BoundsTest {
    public static void main(String[] args) throws IOException {
        Bounds ask = new Bounds(Path.of("../shared/DOC.md"));
        new TextBounds(ask).all();
        new RuleBounds(ask).all();
        new GraphBounds(ask).all();
        new PhraseBounds(ask).all();
        new FlatBounds(ask).all();
        new DocumentBounds(ask).all();
        new RefusalBounds(ask).all();
        ask.end();
    }
}
