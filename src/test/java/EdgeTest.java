import java.io.IOException;
import java.nio.file.Path;
import java.util.List;
import java.util.function.Consumer;

/**
 * The document read sentence by sentence: a test at the edges of each sentence that names one, and a report of every
 * sentence that nothing here speaks of.
 */
public final class EdgeTest {
    private EdgeTest() {
    }

    public static void main(String[] args) throws IOException {
        Doc doc = new Doc(Path.of("../shared/DOC.md"));
        List<List<Consumer<Doc>>> all = List.of(TermEdges.parts(), RuleEdges.parts(), StepEdges.parts(), PairEdges.parts(),
                OutputEdges.parts(), TextEdges.parts(), InputEdges.parts(), ChangeEdges.parts(), RefusalEdges.parts(),
                CallEdges.parts());
        for (List<Consumer<Doc>> parts : all) {
            for (Consumer<Doc> part : parts) {
                run(part, doc);
            }
        }
        doc.finish();
        Check.finish();
    }

    /** An exception that nobody waits for is a wrong answer of the sentence at hand; the other parts go on. */
    private static void run(Consumer<Doc> part, Doc doc) {
        try {
            part.accept(doc);
        } catch (RuntimeException e) {
            Check.due("a call of this part", e + " at " + place(e), "no exception");
        }
    }

    private static String place(RuntimeException thrown) {
        for (StackTraceElement each : thrown.getStackTrace()) {
            if (each.getClassName().endsWith("Edges")) {
                return each.toString();
            }
        }
        return "an unknown place";
    }
}
