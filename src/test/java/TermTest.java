/** Promises 18 to 26: the terms. */
public final class TermTest {
    private static final String SYMBOLS = "system;symbol a 0;symbol f 1;symbol g 2;symbol h 3;";

    public static void main(String[] args) {
        nodes();
        depths();
        comparing();
        average();
        wrongIndices();
        Check.finish();
    }

    private static void nodes() {
        // Positions: 0 h, 1 f, 2 A, 3 g, 4 a, 5 f, 6 H, 7 C
        OverlapBench bench = Check.load(SYMBOLS + "term h(f(A),g(a,f(H)),C);term B");
        Check.due("termCount", bench.termCount(), 2);
        Check.due("termSize", bench.termSize(0), 8);
        Check.due("termSize of a variable", bench.termSize(1), 1);
        int[] symbols = {3, 1, -1, 2, 0, 1, -1, -1};
        int[] variables = {-1, -1, 0, -1, -1, -1, 7, 2};
        int[] sizes = {8, 2, 1, 4, 1, 2, 1, 1};
        for (int p = 0; p < 8; p++) {
            Check.due("symbolAt " + p, bench.symbolAt(0, p), symbols[p]);
            Check.due("variableAt " + p, bench.variableAt(0, p), variables[p]);
            Check.due("subtermSize " + p, bench.subtermSize(0, p), sizes[p]);
        }
        Check.due("symbolAt of a variable", bench.symbolAt(1, 0), OverlapBench.NONE);
        Check.due("variableAt of B", bench.variableAt(1, 0), 1);
        Check.due("subtermSize of B", bench.subtermSize(1, 0), 1);
        Check.due("no terms", Check.load(SYMBOLS + "rule a=a").termCount(), 0);
    }

    private static void depths() {
        OverlapBench bench = Check.load(SYMBOLS + "term A;term a;term f(a);term h(f(f(a)),a,g(a,f(A)));"
                + "term g(g(a,a),h(a,a,f(f(a))));term " + Check.repeat("f(", 39) + "A" + Check.repeat(")", 39));
        int[] depths = {1, 1, 2, 4, 5, 40};
        for (int i = 0; i < 6; i++) {
            Check.due("termDepth " + i, bench.termDepth(i), depths[i]);
        }
        bench.replaceSubterm(5, 39, 5);
        Check.due("depth 79", bench.termDepth(5), 79);
    }

    private static void comparing() {
        OverlapBench bench = Check.load(SYMBOLS + "term g(a,A);term g(a,B);term g(a,A);term a;term g(a,a);term f(f(a))");
        boolean[] ground = {false, false, false, true, true, true};
        for (int i = 0; i < 6; i++) {
            Check.due("isGround " + i, bench.isGround(i), ground[i]);
            for (int k = 0; k < 6; k++) {
                Check.due("areEqual " + i + " " + k, bench.areEqual(i, k), i == k || i + k == 2 && i != k);
            }
        }
        Check.due("a variable is not ground", Check.load("system;term H").isGround(0), false);
    }

    private static void average() {
        Check.due("average without terms", Check.load("system").averageSize(), 0.0);
        Check.due("average of one", Check.load(SYMBOLS + "term f(a)").averageSize(), 2.0);
        OverlapBench bench = Check.load(SYMBOLS + "term a;term f(a);term h(a,a,f(a))");
        Check.due("average of 1, 2 and 5", bench.averageSize(), 8.0 / 3.0);
        bench.removeTerm(0);
        Check.due("average of 2 and 5", bench.averageSize(), 3.5);
    }

    private static void wrongIndices() {
        OverlapBench bench = Check.load(SYMBOLS + "term f(a);term a");
        for (int i : new int[] {-1, 2, 6, Integer.MIN_VALUE, Integer.MAX_VALUE}) {
            Check.throwsExactly("termSize " + i, Check.OUT_OF_BOUNDS, () -> bench.termSize(i));
            Check.throwsExactly("termDepth " + i, Check.OUT_OF_BOUNDS, () -> bench.termDepth(i));
            Check.throwsExactly("isGround " + i, Check.OUT_OF_BOUNDS, () -> bench.isGround(i));
            Check.throwsExactly("areEqual " + i, Check.OUT_OF_BOUNDS, () -> bench.areEqual(i, 0));
            Check.throwsExactly("areEqual 0 " + i, Check.OUT_OF_BOUNDS, () -> bench.areEqual(0, i));
            Check.throwsExactly("symbolAt term " + i, Check.OUT_OF_BOUNDS, () -> bench.symbolAt(i, 0));
            Check.throwsExactly("variableAt term " + i, Check.OUT_OF_BOUNDS, () -> bench.variableAt(i, 0));
            Check.throwsExactly("subtermSize term " + i, Check.OUT_OF_BOUNDS, () -> bench.subtermSize(i, 0));
            Check.throwsExactly("symbolAt " + i, Check.OUT_OF_BOUNDS, () -> bench.symbolAt(0, i));
            Check.throwsExactly("variableAt " + i, Check.OUT_OF_BOUNDS, () -> bench.variableAt(0, i));
            Check.throwsExactly("subtermSize " + i, Check.OUT_OF_BOUNDS, () -> bench.subtermSize(0, i));
        }
        Check.throwsExactly("symbolAt 1 1", Check.OUT_OF_BOUNDS, () -> bench.symbolAt(1, 1));
        Check.throwsExactly("variableAt 1 1", Check.OUT_OF_BOUNDS, () -> bench.variableAt(1, 1));
        Check.throwsExactly("subtermSize 1 1", Check.OUT_OF_BOUNDS, () -> bench.subtermSize(1, 1));
    }
}
