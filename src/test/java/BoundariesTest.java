import java.nio.file.Files;
import java.nio.file.Path;

/** Each sentence of the document has tests of its boundary cases, and they hold. */
public final class BoundariesTest {
    public static void main(String[] args) throws Exception {
        Boundaries b = new Boundaries(new Sentences(Files.readString(Path.of(args[1]))));
        new AroundBoundaries(b, Files.readString(Path.of(args[0]))).all();
        new TermsBoundaries(b).all();
        new GoingBoundaries(b).all();
        new TextBoundaries(b).all();
        new PaneBoundaries(b).all();
        new DropsBoundaries(b).all();
        new ProgramsBoundaries(b).all();
        new PathsBoundaries(b).all();
        new SheetsBoundaries(b).all();
        b.end("BoundariesTest");
    }
}
