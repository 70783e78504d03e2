import java.io.IOException;
import java.nio.file.Path;

/**
 * For each sentence of the document that names a boundary case a test of its own, with the promise's number and the
 * sentence beside it.
 */
public final class EdgesTest {
    private static final int PROMISES = 28;

    public static void main(String[] args) throws IOException {
        Edges.readDocument(Path.of("../shared/DOC.md"));
        boolean right = run() == 0;
        for (int promise = 1; promise <= PROMISES; promise++) {
            if (!Edges.promises.contains(promise)) {
                right = false;
                System.out.println("promise " + promise + " has no sentence");
            }
        }
        System.out.println(right ? Edges.sentences + " sentences hold, by " + Edges.answers + " answers"
            : Edges.broken + " sentences are broken");
        if (!right) {
            System.exit(1);
        }
    }

    /** For Mutants. */
    static int runQuietly() {
        Edges.beQuiet();
        return run();
    }

    /** How many sentences are broken. */
    static int run() {
        BenchEdges.all();
        TextEdges.all();
        LawEdges.all();
        ActEdges.all();
        RoomEdges.all();
        FillEdges.all();
        return Edges.broken;
    }
}
