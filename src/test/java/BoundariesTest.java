import java.io.IOException;
import java.nio.file.Path;

/** Each sentence of the document that names a boundary, with a test of its own that says which one it is. */
public final class BoundariesTest {
    public static void main(String[] args) throws IOException {
        TermBoundaries.all();
        ExceptionBoundaries.all();
        DeedBoundaries.all();
        AnswerBoundaries.all();
        YearBoundaries.all();
        if (args.length > 1) {
            Sentences.lookUp(Path.of(args[1]));
        }
        Checks.end();
    }
}
