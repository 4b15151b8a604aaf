/** Promises 7 to 17: the symbols and the rules. */
public final class SymbolRuleTest {
    private static final int[] WRONG = {-1, Integer.MIN_VALUE, Integer.MAX_VALUE};

    public static void main(String[] args) {
        symbols();
        uses();
        rules();
        wrongIndices();
        Check.finish();
    }

    private static void symbols() {
        OverlapBench bench = Check.load("system;symbol z 0;symbol s 1;symbol abcdef 2;symbol tri 3");
        Check.due("symbolCount", bench.symbolCount(), 4);
        for (int i = 0; i < 4; i++) {
            Check.due("symbolArity " + i, bench.symbolArity(i), i);
        }
        String[] names = {"z", "s", "abcdef", "tri"};
        for (int i = 0; i < 4; i++) {
            for (int k = 0; k < names[i].length(); k++) {
                Check.due("letter " + k + " of " + names[i], bench.symbolLetter(i, k), (int) names[i].charAt(k));
            }
            Check.due("letter behind " + names[i], bench.symbolLetter(i, names[i].length()), OverlapBench.NONE);
            for (int wrong : WRONG) {
                Check.due("letter " + wrong, bench.symbolLetter(i, wrong), OverlapBench.NONE);
            }
        }
        Check.parse(bench, "system;symbol q 1");
        Check.due("letter 1 of a shorter name", bench.symbolLetter(0, 1), OverlapBench.NONE);
    }

    private static void uses() {
        OverlapBench bench = Check.load("system;symbol a 0;symbol f 1;symbol g 2;rule g(f(A),f(a))=g(a,g(a,A));"
                + "rule f(f(A))=A;term g(f(a),f(a))");
        Check.due("uses of a", bench.symbolUses(0), 3);
        Check.due("uses of f", bench.symbolUses(1), 4);
        Check.due("uses of g", bench.symbolUses(2), 3);
        bench.removeRule(0);
        Check.due("uses of a without rule 0", bench.symbolUses(0), 0);
        Check.due("uses of f without rule 0", bench.symbolUses(1), 2);
    }

    private static void rules() {
        OverlapBench bench = Check.load("system;symbol a 0;symbol f 1;symbol g 2;rule g(A,A)=A;rule g(A,B)=g(B,g(A,A));"
                + "rule f(g(A,B))=f(B);rule f(f(A))=a;rule f(A)=f(A);rule f(g(A,f(B)))=g(A,A)");
        Check.due("ruleCount", bench.ruleCount(), 6);
        int[] left = {3, 3, 4, 3, 2, 5};
        int[] right = {1, 5, 2, 1, 2, 3};
        boolean[] linear = {false, true, true, true, true, true};
        boolean[] collapsing = {true, false, false, false, false, false};
        boolean[] duplicating = {false, true, false, false, false, true};
        boolean[] decreasing = {true, false, true, true, false, false};
        for (int i = 0; i < 6; i++) {
            Check.due("leftSize " + i, bench.leftSize(i), left[i]);
            Check.due("rightSize " + i, bench.rightSize(i), right[i]);
            Check.due("isLeftLinear " + i, bench.isLeftLinear(i), linear[i]);
            Check.due("isCollapsing " + i, bench.isCollapsing(i), collapsing[i]);
            Check.due("isDuplicating " + i, bench.isDuplicating(i), duplicating[i]);
            Check.due("decreasesSize " + i, bench.decreasesSize(i), decreasing[i]);
        }
        OverlapBench late = Check.load("system;symbol f 2;rule f(f(H,A),H)=f(H,H)");
        Check.due("the last variable counts", late.isLeftLinear(0), false);
        Check.due("no more often", late.isDuplicating(0), false);
        Check.due("smaller", late.decreasesSize(0), true);
        OverlapBench last = Check.load("system;symbol f 2;rule f(f(H,A),A)=f(H,H)");
        Check.due("more often, the last variable", last.isDuplicating(0), true);
        Check.due("not always smaller", last.decreasesSize(0), false);
    }

    private static void wrongIndices() {
        OverlapBench bench = Check.load("system;symbol a 0;symbol f 1;rule f(A)=a");
        for (int i : new int[] {-1, 2, Integer.MIN_VALUE, Integer.MAX_VALUE}) {
            Check.throwsExactly("symbolArity " + i, Check.OUT_OF_BOUNDS, () -> bench.symbolArity(i));
            Check.throwsExactly("symbolLetter " + i, Check.OUT_OF_BOUNDS, () -> bench.symbolLetter(i, 0));
            Check.throwsExactly("symbolUses " + i, Check.OUT_OF_BOUNDS, () -> bench.symbolUses(i));
        }
        for (int i : new int[] {-1, 1, 6, Integer.MIN_VALUE, Integer.MAX_VALUE}) {
            Check.throwsExactly("leftSize " + i, Check.OUT_OF_BOUNDS, () -> bench.leftSize(i));
            Check.throwsExactly("rightSize " + i, Check.OUT_OF_BOUNDS, () -> bench.rightSize(i));
            Check.throwsExactly("isLeftLinear " + i, Check.OUT_OF_BOUNDS, () -> bench.isLeftLinear(i));
            Check.throwsExactly("isCollapsing " + i, Check.OUT_OF_BOUNDS, () -> bench.isCollapsing(i));
            Check.throwsExactly("isDuplicating " + i, Check.OUT_OF_BOUNDS, () -> bench.isDuplicating(i));
            Check.throwsExactly("decreasesSize " + i, Check.OUT_OF_BOUNDS, () -> bench.decreasesSize(i));
        }
    }
}
