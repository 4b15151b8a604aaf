/** Promises 51 to 64: changes, undo, and saved states. */
public final class ChangeTest {
    private static final String SYMBOLS = "system;symbol a 0;symbol b 0;symbol f 1;symbol g 2;symbol h 3;";

    public static void main(String[] args) {
        rewriting();
        stepping();
        tooLarge();
        normalizing();
        copying();
        replacing();
        swapping();
        removingRules();
        reversing();
        removingTerms();
        undoing();
        undoLimit();
        saving();
        wrongIndices();
        Check.finish();
    }

    /** Looks at the system after a change, and at what undo brings back. */
    private static void changed(OverlapBench bench, String after, String before) {
        Check.due("after the change", Check.system(bench), after);
        int left = bench.undoCount();
        Check.due("undo", bench.undo(), left - 1);
        Check.due("undone", Check.system(bench), before);
    }

    private static void rewriting() {
        String rules = "rule f(A)=g(A,A);rule g(B,a)=B;";
        String written = "f(A)=g(A,A);g(B,a)=B;";
        OverlapBench bench = Check.load(SYMBOLS + rules + "term g(f(b),f(H));term g(g(A,B),a)");
        String before = written + "g(f(b),f(H));g(g(A,B),a);";
        Check.due("rewrite f(b)", bench.rewrite(0, 0, 1), 6);
        changed(bench, written + "g(g(b,b),f(H));g(g(A,B),a);", before);
        Check.due("rewrite f(H)", bench.rewrite(0, 0, 3), 6);
        changed(bench, written + "g(f(b),g(H,H));g(g(A,B),a);", before);
        Check.due("rewrite the root", bench.rewrite(1, 1, 0), 3);
        changed(bench, written + "g(f(b),f(H));g(A,B);", before);
        Check.throwsExactly("no match", Check.ILLEGAL_ARGUMENT, () -> bench.rewrite(1, 0, 0));
        Check.throwsExactly("no match at a variable", Check.ILLEGAL_ARGUMENT, () -> bench.rewrite(0, 0, 4));
        OverlapBench later = Check.load(SYMBOLS + "rule f(A)=a;rule f(A)=b;term f(a)");
        Check.due("a later rule", later.rewrite(1, 0, 0), 1);
        changed(later, "f(A)=a;f(A)=b;b;", "f(A)=a;f(A)=b;f(a);");
    }

    private static void stepping() {
        String rules = "rule g(A,B)=A;rule f(f(A))=A;";
        String written = "g(A,B)=A;f(f(A))=A;";
        OverlapBench bench = Check.load(SYMBOLS + rules + "term g(f(f(f(a))),g(a,b));term b");
        String before = written + "g(f(f(f(a))),g(a,b));b;";
        Check.due("innermost", bench.stepInnermost(0), 2);
        changed(bench, written + "g(f(a),g(a,b));b;", before);
        Check.due("outermost", bench.stepOutermost(0), 0);
        changed(bench, written + "f(f(f(a)));b;", before);
        Check.throwsExactly("innermost of a normal form", Check.ILLEGAL_ARGUMENT, () -> bench.stepInnermost(1));
        Check.throwsExactly("outermost of a normal form", Check.ILLEGAL_ARGUMENT, () -> bench.stepOutermost(1));
        bench.stepInnermost(0);
        Check.due("the next innermost", bench.stepInnermost(0), 3);
        Check.due("is taken", Check.term(bench, 0), "g(f(a),a)");
        OverlapBench first = Check.load(SYMBOLS + "rule f(A)=a;rule f(A)=b;term f(a)");
        Check.due("the first rule", first.stepOutermost(0), 0);
        Check.due("leads to a", Check.term(first, 0), "a");
    }

    private static void tooLarge() {
        String chain = Check.repeat("f(", 36) + "a" + Check.repeat(")", 36);
        OverlapBench bench = Check.load(SYMBOLS + "rule g(A,b)=f(g(A,A));rule f(b)=b;term g(" + chain + ",b);term f(f(a))");
        Check.due("37 nodes twice", bench.rewrite(0, 0, 0), 76);
        bench.undo();
        bench.replaceSubterm(0, 37, 1);
        Check.due("39 nodes twice", bench.rewrite(0, 0, 0), 80);
        bench.undo();
        bench.removeTerm(1);
        bench.copySubterm(0, 37);
        bench.replaceSubterm(0, 37, 1);
        Check.due("41 nodes", bench.termSize(0), 41);
        bench.copySubterm(0, 38);
        bench.replaceSubterm(1, 1, 2);
        Check.due("f(f(a)) again", Check.term(bench, 1), "f(f(a))");
        bench.copySubterm(1, 1);
        bench.replaceSubterm(0, 39, 3);
        Check.due("42 nodes", bench.termSize(0), 42);
        int undoable = bench.undoCount();
        Check.throwsExactly("rewrite to 82", Check.ILLEGAL_ARGUMENT, () -> bench.rewrite(0, 0, 0));
        Check.throwsExactly("innermost to 82", Check.ILLEGAL_ARGUMENT, () -> bench.stepInnermost(0));
        Check.throwsExactly("outermost to 82", Check.ILLEGAL_ARGUMENT, () -> bench.stepOutermost(0));
        Check.throwsExactly("normalize over 82", Check.ILLEGAL_ARGUMENT, () -> bench.normalize(0));
        Check.due("still 42", bench.termSize(0), 42);
        Check.due("no change is counted", bench.undoCount(), undoable);
        OverlapBench odd = Check.load(SYMBOLS + "rule h(A,b,B)=h(A,A,B);term h(" + chain + ",b,a);term f(f(f(a)))");
        odd.replaceSubterm(0, 37, 1);
        Check.throwsExactly("2 + 2 * 40 is too large", Check.ILLEGAL_ARGUMENT, () -> odd.rewrite(0, 0, 0));
        odd.undo();
        odd.rewrite(0, 0, 0);
        Check.due("2 + 2 * 37", odd.termSize(0), 76);
        OverlapBench one = Check.load(SYMBOLS + "rule g(A,b)=g(A,A);term g(" + chain + ",b);term f(f(f(a)))");
        one.replaceSubterm(0, 37, 1);
        Check.throwsExactly("81 is too large", Check.ILLEGAL_ARGUMENT, () -> one.stepInnermost(0));
        Check.throwsExactly("81 is too large for rewrite", Check.ILLEGAL_ARGUMENT, () -> one.rewrite(0, 0, 0));
    }

    private static void normalizing() {
        String rules = "rule f(f(A))=A;rule b=b;";
        String written = "f(f(A))=A;b=b;";
        OverlapBench bench = Check.load(SYMBOLS + rules + "term g(f(f(f(f(a)))),f(f(C)));term f(b);term a");
        String before = written + "g(f(f(f(f(a)))),f(f(C)));f(b);a;";
        Check.due("normalize", bench.normalize(0), 3);
        changed(bench, written + "g(a,C);f(b);a;", before);
        Check.due("normalize a normal form", bench.normalize(2), 0);
        Check.due("which is a change", bench.undoCount(), 1);
        changed(bench, before, before);
        Check.throwsExactly("no normal form", Check.ILLEGAL_ARGUMENT, () -> bench.normalize(1));
        Check.due("nothing to undo", bench.undoCount(), 0);
        OverlapBench inner = Check.load(SYMBOLS + "rule f(A)=g(A,A);rule a=b;rule h(A,B,C)=B;rule g(B,f(B))=g(B,f(B));"
                + "term f(a);term h(g(A,f(A)),b,b)");
        Check.due("innermost, not outermost", inner.normalize(0), 2);
        Check.due("leads to g(b,b)", Check.term(inner, 0), "g(b,b)");
        OverlapBench loop = Check.load(SYMBOLS + "rule a=a;rule h(A,B,C)=B;term h(a,b,b)");
        Check.throwsExactly("only outermost ends", Check.ILLEGAL_ARGUMENT, () -> loop.normalize(0));
    }

    private static void copying() {
        OverlapBench bench = Check.load(SYMBOLS + "term g(f(A),h(a,f(b),C));term B");
        String before = "g(f(A),h(a,f(b),C));B;";
        String[] parts = {"g(f(A),h(a,f(b),C))", "f(A)", "A", "h(a,f(b),C)", "a", "f(b)", "b", "C"};
        for (int p = 0; p < parts.length; p++) {
            Check.due("copySubterm " + p, bench.copySubterm(0, p), 2);
            Check.due("part " + p, Check.term(bench, 2), parts[p]);
            bench.undo();
        }
        bench.copySubterm(0, 3);
        changed(bench, before + parts[3] + ";", before);
        for (int i = 2; i < 6; i++) {
            Check.due("copy " + i, bench.copySubterm(1, 0), i);
        }
        Check.throwsExactly("a 7th term", Check.ILLEGAL_ARGUMENT, () -> bench.copySubterm(1, 0));
        Check.throwsExactly("a wrong position is first", Check.OUT_OF_BOUNDS, () -> bench.copySubterm(1, 1));
        Check.due("6 terms", bench.termCount(), 6);
        bench.replaceSubterm(0, 0, 1);
        Check.due("copies are their own", Check.term(bench, 5), "B");
    }

    private static void replacing() {
        OverlapBench bench = Check.load(SYMBOLS + "term g(f(A),h(a,f(b),C));term f(B)");
        String before = "g(f(A),h(a,f(b),C));f(B);";
        Check.due("the root", bench.replaceSubterm(0, 0, 1), 2);
        changed(bench, "f(B);f(B);", before);
        Check.due("f(A)", bench.replaceSubterm(0, 1, 1), 8);
        changed(bench, "g(f(B),h(a,f(b),C));f(B);", before);
        Check.due("A", bench.replaceSubterm(0, 2, 1), 9);
        changed(bench, "g(f(f(B)),h(a,f(b),C));f(B);", before);
        Check.due("h", bench.replaceSubterm(0, 3, 1), 5);
        changed(bench, "g(f(A),f(B));f(B);", before);
        Check.due("C", bench.replaceSubterm(0, 7, 1), 9);
        changed(bench, "g(f(A),h(a,f(b),f(B)));f(B);", before);
        Check.due("itself", bench.replaceSubterm(1, 1, 1), 3);
        changed(bench, "g(f(A),h(a,f(b),C));f(f(B));", before);
        Check.due("itself at the root", bench.replaceSubterm(1, 0, 1), 2);
        changed(bench, before, before);
        String chain = Check.repeat("f(", 39) + "a" + Check.repeat(")", 39);
        OverlapBench large = Check.load(SYMBOLS + "term " + chain + ";copy 0;term f(f(a));term a");
        Check.due("79 nodes", large.replaceSubterm(0, 39, 1), 79);
        Check.throwsExactly("81 nodes", Check.ILLEGAL_ARGUMENT, () -> large.replaceSubterm(0, 78, 2));
        Check.due("80 nodes", large.replaceSubterm(0, 77, 2), 80);
        Check.due("80 nodes again", large.replaceSubterm(0, 79, 3), 80);
        Check.throwsExactly("twice 80", Check.ILLEGAL_ARGUMENT, () -> large.replaceSubterm(0, 79, 0));
        Check.due("a whole term", large.replaceSubterm(1, 0, 0), 80);
        Check.due("it is 80", large.termSize(1), 80);
        Check.throwsExactly("a wrong term is first", Check.OUT_OF_BOUNDS, () -> large.replaceSubterm(0, 79, 4));
    }

    private static void swapping() {
        OverlapBench bench = Check.load(SYMBOLS + "rule f(A)=a;rule f(a)=b;rule g(A,B)=B;term f(a);term g(f(a),f(b));term C");
        String terms = "f(a);g(f(a),f(b));C;";
        String before = "f(A)=a;f(a)=b;g(A,B)=B;" + terms;
        Check.due("swap", bench.swapRules(0, 1), 4);
        Check.due("the first rule changes", bench.ruleAt(0, 0), 0);
        changed(bench, "f(a)=b;f(A)=a;g(A,B)=B;" + terms, before);
        Check.due("swap back and forth", bench.swapRules(2, 0), 4);
        changed(bench, "g(A,B)=B;f(a)=b;f(A)=a;" + terms, before);
        Check.due("swap with itself", bench.swapRules(1, 1), 4);
        Check.due("it counts", bench.undoCount(), 1);
        changed(bench, before, before);
        bench.removeTerm(1);
        bench.removeTerm(1);
        Check.due("removed terms have no redexes", bench.swapRules(0, 1), 1);
        Check.due("without terms", Check.load(SYMBOLS + "rule a=b;rule b=a").swapRules(0, 1), 0);
    }

    private static void removingRules() {
        OverlapBench bench = Check.load(SYMBOLS + "rule f(A)=a;rule g(A,B)=B;rule a=b;term f(a)");
        String before = "f(A)=a;g(A,B)=B;a=b;f(a);";
        Check.due("remove 0", bench.removeRule(0), 2);
        changed(bench, "g(A,B)=B;a=b;f(a);", before);
        Check.due("remove 1", bench.removeRule(1), 2);
        changed(bench, "f(A)=a;a=b;f(a);", before);
        Check.due("remove 2", bench.removeRule(2), 2);
        Check.due("remove 0 of 2", bench.removeRule(0), 1);
        Check.due("remove 0 of 1", bench.removeRule(0), 0);
        Check.throwsExactly("remove of none", Check.OUT_OF_BOUNDS, () -> bench.removeRule(0));
        Check.due("no rules", Check.system(bench), "f(a);");
        bench.undo();
        bench.undo();
        Check.due("two are back", Check.system(bench), "f(A)=a;g(A,B)=B;f(a);");
        Check.due("the first is back", bench.undo(), 0);
        Check.due("all are back", Check.system(bench), before);
    }

    private static void reversing() {
        OverlapBench bench = Check.load(SYMBOLS + "rule f(A)=g(A,A);rule g(A,B)=f(A);rule f(A)=A;rule a=f(f(b));"
                + "rule g(A,B)=g(B,A)");
        String before = "f(A)=g(A,A);g(A,B)=f(A);f(A)=A;a=f(f(b));g(A,B)=g(B,A);";
        Check.due("reverse 0", bench.reverseRule(0), 3);
        changed(bench, "g(A,A)=f(A);g(A,B)=f(A);f(A)=A;a=f(f(b));g(A,B)=g(B,A);", before);
        Check.throwsExactly("a lost variable", Check.ILLEGAL_ARGUMENT, () -> bench.reverseRule(1));
        Check.throwsExactly("a variable as left side", Check.ILLEGAL_ARGUMENT, () -> bench.reverseRule(2));
        Check.due("reverse 3", bench.reverseRule(3), 3);
        changed(bench, "f(A)=g(A,A);g(A,B)=f(A);f(A)=A;f(f(b))=a;g(A,B)=g(B,A);", before);
        Check.due("reverse 4", bench.reverseRule(4), 3);
        Check.due("reverse 4 again", bench.reverseRule(4), 3);
        Check.due("twice is nothing", Check.system(bench), before);
        Check.due("but two changes", bench.undoCount(), 2);
    }

    private static void removingTerms() {
        OverlapBench bench = Check.load(SYMBOLS + "rule a=b;term f(a);term B;term g(a,A)");
        String before = "a=b;f(a);B;g(a,A);";
        Check.due("remove 0", bench.removeTerm(0), 2);
        changed(bench, "a=b;B;g(a,A);", before);
        Check.due("remove 1", bench.removeTerm(1), 2);
        changed(bench, "a=b;f(a);g(a,A);", before);
        Check.due("remove 2", bench.removeTerm(2), 2);
        changed(bench, "a=b;f(a);B;", before);
        for (int left = 2; left >= 0; left--) {
            Check.due("remove to " + left, bench.removeTerm(0), left);
        }
        Check.throwsExactly("remove of none", Check.OUT_OF_BOUNDS, () -> bench.removeTerm(0));
    }

    private static void undoing() {
        OverlapBench bench = Check.load(SYMBOLS + "rule f(A)=A;term f(f(a))");
        Check.throwsExactly("nothing to undo", Check.ILLEGAL_STATE, bench::undo);
        bench.stepInnermost(0);
        bench.copySubterm(0, 0);
        bench.removeRule(0);
        Check.due("three changes", bench.undoCount(), 3);
        Check.due("undo 1", bench.undo(), 2);
        Check.due("state 1", Check.system(bench), "f(A)=A;f(a);f(a);");
        Check.due("undo 2", bench.undo(), 1);
        Check.due("state 2", Check.system(bench), "f(A)=A;f(a);");
        bench.stepInnermost(0);
        Check.due("a new change", bench.undoCount(), 2);
        Check.due("undo 3", bench.undo(), 1);
        Check.due("state 3", Check.system(bench), "f(A)=A;f(a);");
        Check.due("undo 4", bench.undo(), 0);
        Check.due("state 4", Check.system(bench), "f(A)=A;f(f(a));");
        Check.throwsExactly("no more to undo", Check.ILLEGAL_STATE, bench::undo);
        Check.due("undoCount", bench.undoCount(), 0);
    }

    private static void undoLimit() {
        String chain = Check.repeat("f(", 20) + "a" + Check.repeat(")", 20);
        OverlapBench bench = Check.load(SYMBOLS + "rule f(A)=A;term " + chain);
        for (int i = 1; i <= 20; i++) {
            bench.stepOutermost(0);
            Check.due("undoCount after " + i, bench.undoCount(), Math.min(i, 8));
        }
        for (int i = 1; i <= 5; i++) {
            Check.due("undo " + i, bench.undo(), 8 - i);
            Check.due("size after undo " + i, bench.termSize(0), 1 + i);
        }
        for (int i = 1; i <= 3; i++) {
            bench.stepOutermost(0);
        }
        Check.due("6 changes", bench.undoCount(), 6);
        for (int i = 5; i >= 0; i--) {
            Check.due("undo to " + i, bench.undo(), i);
        }
        Check.due("the oldest state", bench.termSize(0), 9);
        Check.throwsExactly("older ones are lost", Check.ILLEGAL_STATE, bench::undo);
    }

    private static void saving() {
        OverlapBench bench = Check.load(SYMBOLS + "rule f(A)=A;rule a=b;term f(a);term B");
        Check.due("save 0", bench.saveState(0), 2);
        Check.due("saving is no change", bench.undoCount(), 0);
        Check.throwsExactly("slot 1 is empty", Check.ILLEGAL_STATE, () -> bench.restoreState(1));
        bench.removeTerm(0);
        bench.removeRule(1);
        Check.due("save 1", bench.saveState(1), 1);
        Check.due("undo after saving", bench.undo(), 1);
        Check.due("restore 0", bench.restoreState(0), 2);
        Check.due("state 0", Check.system(bench), "f(A)=A;a=b;f(a);B;");
        Check.due("no undo", bench.undoCount(), 0);
        Check.throwsExactly("nothing to undo", Check.ILLEGAL_STATE, bench::undo);
        Check.due("restore 1", bench.restoreState(1), 1);
        Check.due("state 1", Check.system(bench), "f(A)=A;B;");
        bench.copySubterm(0, 0);
        Check.due("a change after restoring", bench.undoCount(), 1);
        bench.undo();
        bench.copySubterm(0, 0);
        Check.due("slots stay saved", bench.restoreState(0), 2);
        bench.stepInnermost(0);
        Check.due("slots have copies", bench.restoreState(0), 2);
        Check.due("state 0 again", Check.system(bench), "f(A)=A;a=b;f(a);B;");
        bench.removeTerm(0);
        Check.due("save over slot 1", bench.saveState(1), 1);
        bench.undo();
        Check.due("restore slot 1", bench.restoreState(1), 1);
        Check.due("the new state 1", Check.system(bench), "f(A)=A;a=b;B;");
        bench.removeTerm(0);
        Check.due("save without terms", bench.saveState(0), 0);
        Check.due("restore without terms", bench.restoreState(0), 0);
        for (int i : new int[] {-1, 2, Integer.MIN_VALUE, Integer.MAX_VALUE}) {
            Check.throwsExactly("saveState " + i, Check.OUT_OF_BOUNDS, () -> bench.saveState(i));
            Check.throwsExactly("restoreState " + i, Check.OUT_OF_BOUNDS, () -> bench.restoreState(i));
        }
    }

    private static void wrongIndices() {
        OverlapBench bench = Check.load(SYMBOLS + "rule f(A)=A;term f(a);term a");
        for (int i : new int[] {-1, 2, 6, Integer.MIN_VALUE, Integer.MAX_VALUE}) {
            Check.throwsExactly("rewrite rule " + i, Check.OUT_OF_BOUNDS, () -> bench.rewrite(i, 0, 0));
            Check.throwsExactly("rewrite term " + i, Check.OUT_OF_BOUNDS, () -> bench.rewrite(0, i, 0));
            Check.throwsExactly("rewrite at " + i, Check.OUT_OF_BOUNDS, () -> bench.rewrite(0, 0, i));
            Check.throwsExactly("stepInnermost " + i, Check.OUT_OF_BOUNDS, () -> bench.stepInnermost(i));
            Check.throwsExactly("stepOutermost " + i, Check.OUT_OF_BOUNDS, () -> bench.stepOutermost(i));
            Check.throwsExactly("normalize " + i, Check.OUT_OF_BOUNDS, () -> bench.normalize(i));
            Check.throwsExactly("copySubterm term " + i, Check.OUT_OF_BOUNDS, () -> bench.copySubterm(i, 0));
            Check.throwsExactly("copySubterm at " + i, Check.OUT_OF_BOUNDS, () -> bench.copySubterm(0, i));
            Check.throwsExactly("replace term " + i, Check.OUT_OF_BOUNDS, () -> bench.replaceSubterm(i, 0, 0));
            Check.throwsExactly("replace at " + i, Check.OUT_OF_BOUNDS, () -> bench.replaceSubterm(0, i, 0));
            Check.throwsExactly("replace by " + i, Check.OUT_OF_BOUNDS, () -> bench.replaceSubterm(0, 0, i));
            Check.throwsExactly("swapRules " + i, Check.OUT_OF_BOUNDS, () -> bench.swapRules(i, 0));
            Check.throwsExactly("swapRules 0 " + i, Check.OUT_OF_BOUNDS, () -> bench.swapRules(0, i));
            Check.throwsExactly("removeRule " + i, Check.OUT_OF_BOUNDS, () -> bench.removeRule(i));
            Check.throwsExactly("reverseRule " + i, Check.OUT_OF_BOUNDS, () -> bench.reverseRule(i));
            Check.throwsExactly("removeTerm " + i, Check.OUT_OF_BOUNDS, () -> bench.removeTerm(i));
        }
        Check.due("nothing to undo", bench.undoCount(), 0);
        Check.due("nothing changed", Check.system(bench), "f(A)=A;f(a);a;");
    }
}
