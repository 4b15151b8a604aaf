import java.util.List;
import java.util.function.Consumer;

/** The number of calls for which an object is promised to answer. */
final class CallEdges {
    private static final int CALLS = 512;

    private CallEdges() {
    }

    static List<Consumer<Doc>> parts() {
        return List.of(CallEdges::calls);
    }

    private static void calls(Doc doc) {
        doc.plain("What it is", "A workbench for first-order term rewriting", "what later calls answer is free");
        doc.edge("What it is", "An object is used for at most 512 calls");
        changes();
        texts();
        pairs();
    }

    /** Feeds and parses; answers the number of calls. */
    private static int load(OverlapBench bench, String text) {
        Check.feed(bench, text);
        bench.parseSystem(text.length());
        return (text.length() + 19) / 20 + 1;
    }

    private static void changes() {
        OverlapBench bench = new OverlapBench();
        int calls = load(bench, TermEdges.SYMBOLS + "rule f(A)=A;rule f(f(A))=f(a);term f(f(b))");
        int first = 2;
        for (; calls < CALLS - 3; calls++) {
            first = 5 - first;
            Check.due("swap, call " + (calls + 1), bench.swapRules(0, 1), 2);
        }
        Check.due("call 510", bench.leftSize(0), first);
        Check.due("call 511", bench.undo(), 7);
        Check.due("call 512", bench.leftSize(0), 5 - first);
    }

    private static void texts() {
        OverlapBench bench = new OverlapBench();
        String text = TermEdges.SYMBOLS + "term " + TermEdges.chain(40, "a");
        String filled = text + Check.repeat(" ", 500 - text.length());
        int calls = 0;
        for (; calls + 27 < CALLS; calls += 27) {
            load(bench, filled);
            Check.due("size, call " + (calls + 27), bench.termSize(0), 40);
        }
        for (; calls < CALLS - 1; calls++) {
            Check.throwsExactly("call " + (calls + 1), Check.ILLEGAL_ARGUMENT, () -> bench.parseSystem(0));
        }
        Check.due("call 512", bench.termDepth(0), 40);
    }

    private static void pairs() {
        OverlapBench bench = new OverlapBench();
        int calls = load(bench, TermEdges.SYMBOLS + "rule a=a;rule a=b;rule a=f(a);rule a=g(a,a);rule a=h(a,a,a);rule a=f(b)");
        for (; calls < CALLS - 2; calls += 2) {
            bench.swapRules(2, 3);
            Check.due("call " + (calls + 2), bench.unjoinedPairs(), 20);
        }
        for (; calls < CALLS - 1; calls++) {
            bench.undoCount();
        }
        Check.due("call 512", bench.pairInnerRule(19), 5);
    }
}
