import com.sun.management.ThreadMXBean;
import java.lang.management.ManagementFactory;

/** What a run takes of the room that all its calls share: a workbench is small, and its calls make no objects. */
public final class RoomTest {
    private static final long WORKBENCH = 120_000;
    private static final long CALLS = 2_000;

    private static final ThreadMXBean THREADS = (ThreadMXBean) ManagementFactory.getThreadMXBean();

    private RoomTest() {
    }

    private static long taken() {
        return THREADS.getCurrentThreadAllocatedBytes();
    }

    public static void main(String[] args) {
        // The first round loads classes; the second one is measured.
        measure(false);
        measure(true);
        Check.finish();
    }

    private static void measure(boolean checked) {
        long before = taken();
        OverlapBench bench = new OverlapBench();
        long made = taken() - before;
        String text = "system;symbol a 0;symbol b 0;symbol f 1;symbol g 2;symbol h 3;rule f(A)=g(A,A);rule g(A,B)=f(B);rule a=f(a);"
                + "rule a=b;rule f(f(A))=A;rule b=a;term h(f(a),g(a,B),f(f(f(b))));term g(f(A),h(a,b,C))";
        Check.feed(bench, text);
        bench.parseSystem(text.length());
        before = taken();
        int calls = 0;
        while (calls < 400) {
            calls += askAll(bench);
        }
        long used = taken() - before;
        if (checked) {
            Check.due("bytes of a workbench, " + made, made < WORKBENCH, true);
            Check.due("bytes of " + calls + " calls, " + used, used < CALLS, true);
        }
    }

    private static int askAll(OverlapBench bench) {
        bench.swapRules(0, 4);
        bench.unjoinedPairs();
        bench.writePair(0);
        bench.stepsInnermost(0);
        bench.stepsOutermost(0);
        bench.haveSameNormalForm(0, 1);
        bench.unify(0, 1);
        bench.unifiedSize(1, 0);
        bench.writeTerm(0);
        bench.writeNormalForm(0);
        bench.copySubterm(0, 1);
        bench.replaceSubterm(2, 0, 1);
        bench.removeTerm(2);
        bench.saveState(0);
        bench.swapRules(2, 3);
        bench.undo();
        bench.restoreState(0);
        bench.append(1, 2, 3, 4, 5);
        bench.termDepth(0);
        bench.normalShare();
        return 20;
    }
}
