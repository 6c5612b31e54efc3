import java.io.IOException;
import java.nio.file.Path;

/** Every boundary case that the document names, each as a row of its own; and no word of a promise without a row. */
final class EdgesTest {
    public static void main(String[] args) throws IOException {
        Due due = new Due();
        Quotes quotes = new Quotes(Path.of("../shared/DOC.md"));
        new FrameEdges(due, quotes).rows();
        new PlaneEdges(due, quotes).rows();
        new PartEdges(due, quotes).rows();
        new OtherEdges(due, quotes).rows();
        quotes.check(due);
        due.end();
    }
}
