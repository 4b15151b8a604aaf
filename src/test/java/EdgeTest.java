import java.io.IOException;
import java.nio.file.Path;

/**
 * The document read sentence by sentence: a test at the edges of each sentence that names one, and a report of every
 * sentence that nothing here speaks of.
 */
public final class EdgeTest {
    private EdgeTest() {
    }

    public static void main(String[] args) throws IOException {
        Doc doc = new Doc(Path.of("../shared/DOC.md"));
        TermEdges.run(doc);
        RuleEdges.run(doc);
        StepEdges.run(doc);
        PairEdges.run(doc);
        OutputEdges.run(doc);
        TextEdges.run(doc);
        InputEdges.run(doc);
        ChangeEdges.run(doc);
        RefusalEdges.run(doc);
        CallEdges.run(doc);
        doc.finish();
        Check.finish();
    }
}
