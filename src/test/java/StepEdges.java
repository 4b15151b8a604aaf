import java.util.List;
import java.util.function.Consumer;

/** Section 3 (steps and normal forms) and what the promises 29 to 37 and 51 to 54 answer at their edges. */
final class StepEdges {
    private static final String SYMBOLS = TermEdges.SYMBOLS;

    private StepEdges() {
    }

    static List<Consumer<Doc>> parts() {
        return List.of(
                StepEdges::redexes, StepEdges::firstRule, StepEdges::orders, StepEdges::tooLarge,
                StepEdges::reductions, StepEdges::fails, StepEdges::redexAnswers, StepEdges::shares,
                StepEdges::stepAnswers, StepEdges::normalForms, StepEdges::sameNormalForms, StepEdges::rewriteAnswers,
                StepEdges::normalizeAnswers);
    }

    private static void redexes(Doc doc) {
        doc.edge("3", "at which at least one rule matches");
        OverlapBench bench = Check.load(SYMBOLS + "rule f(A)=a;rule f(b)=a;rule b=b;term f(b);term f(a);term a;term A");
        Check.due("two rules, and one below", bench.redexCount(0), 2);
        Check.due("one rule", bench.redexCount(1), 1);
        Check.due("no rule", bench.redexCount(2), 0);
        Check.due("a variable", bench.redexCount(3), 0);
        bench.removeRule(0);
        Check.due("the rule left", bench.redexCount(0), 2);
        bench.removeRule(0);
        Check.due("only below", bench.redexCount(0), 1);
        bench.removeRule(0);
        Check.due("without rules", bench.redexCount(0), 0);
        doc.edge("3", "A term without a redex is a normal form");
        Check.due("without rules", bench.isNormalForm(0), true);
        OverlapBench deep = Check.load(SYMBOLS + "rule b=a;term h(a,a,f(b));term h(a,a,f(a));term B");
        Check.due("a redex at the last node", deep.isNormalForm(0), false);
        Check.due("none", deep.isNormalForm(1), true);
        Check.due("a variable", deep.isNormalForm(2), true);
    }

    private static void firstRule(Doc doc) {
        doc.edge("3", "A step at a redex uses the first rule");
        OverlapBench bench = Check.load(SYMBOLS + "rule f(b)=b;rule f(A)=a;rule f(a)=b;rule f(f(A))=b;term f(a);term f(b);"
                + "term f(A)");
        for (int term = 0; term < 3; term++) {
            Check.due("innermost", bench.stepInnermost(term), 0);
            Check.due("term " + term, Check.term(bench, term), term == 1 ? "b" : "a");
            bench.undo();
            Check.due("outermost", bench.stepOutermost(term), 0);
            Check.due("term " + term, Check.term(bench, term), term == 1 ? "b" : "a");
            bench.undo();
        }
        bench.swapRules(1, 2);
        bench.stepInnermost(0);
        Check.due("the other rule is first", Check.term(bench, 0), "b");
        bench.undo();
        Check.due("and is the first of a reduction", Check.output(bench, bench.writeNormalForm(0)), "b");
        OverlapBench last = Check.load(SYMBOLS + Check.repeat("rule f(b)=b;", 5) + "rule f(A)=A;term f(a)");
        last.stepInnermost(0);
        Check.due("the last of six", Check.term(last, 0), "a");
    }

    private static void orders(Doc doc) {
        doc.edge("3", "comes first in postorder");
        // 0 h, 1 g, 2 a, 3 f, 4 b, 5 f, 6 f, 7 A, 8 f, 9 b
        OverlapBench bench = Check.load(SYMBOLS + "rule f(A)=A;rule h(A,B,C)=a;rule g(A,b)=A;rule g(A,f(B))=b;"
                + "term h(g(a,f(b)),f(f(A)),f(b))");
        int[] inner = {3, 1, 3, 2, 3, 0};
        String[] after = {"h(g(a,b),f(f(A)),f(b))", "h(a,f(f(A)),f(b))", "h(a,f(A),f(b))", "h(a,A,f(b))", "h(a,A,b)", "a"};
        for (int i = 0; i < 6; i++) {
            Check.due("innermostRedex " + i, bench.innermostRedex(0), inner[i]);
            Check.due("innermost step " + i, bench.stepInnermost(0), inner[i]);
            Check.due("after it", Check.term(bench, 0), after[i]);
        }
        doc.edge("3", "The outermost step is the step at the redex with the smallest position");
        // 0 h, 1 a, 2 g, 3 f, 4 b, 5 f, 6 b, 7 f, 8 f, 9 b
        OverlapBench outer = Check.load(SYMBOLS + "rule f(A)=A;rule g(A,b)=A;term h(a,g(f(b),f(b)),f(f(b)))");
        int[] positions = {3, 4, 2, 3, 3};
        String[] steps = {"h(a,g(b,f(b)),f(f(b)))", "h(a,g(b,b),f(f(b)))", "h(a,b,f(f(b)))", "h(a,b,f(b))", "h(a,b,b)"};
        for (int i = 0; i < 5; i++) {
            Check.due("outermostRedex " + i, outer.outermostRedex(0), positions[i]);
            Check.due("outermost step " + i, outer.stepOutermost(0), positions[i]);
            Check.due("after it", Check.term(outer, 0), steps[i]);
        }
        OverlapBench root = Check.load(SYMBOLS + "rule f(A)=A;rule g(A,B)=B;term g(f(a),f(b))");
        Check.due("the root is outermost", root.outermostRedex(0), 0);
        Check.due("the first argument is innermost", root.innermostRedex(0), 1);
    }

    /**
     * Term 0 takes one step, by rule 0, to 80 nodes; term 1 one step, by rule 1, to 81 nodes. Both have 40 nodes, and
     * after a further step of rule 2 they would be b.
     */
    static OverlapBench growing() {
        String tree = TermEdges.chain(39, "a");
        return Check.load("system;symbol a 0;symbol b 0;symbol f 1;symbol g 2;symbol h 1;symbol k 1;rule h(A)=f(g(A,A));"
                + "rule k(A)=f(f(g(A,A)));rule f(f(g(A,A)))=b;term h(" + tree + ");term k(" + tree + ");term b");
    }

    private static void tooLarge(Doc doc) {
        doc.edge("3", "more than 80 nodes afterwards");
        OverlapBench bench = growing();
        Check.due("rewrite to 80", bench.rewrite(0, 0, 0), 80);
        bench.undo();
        Check.due("innermost to 80", bench.stepInnermost(0), 0);
        Check.due("has 80", bench.termSize(0), 80);
        bench.undo();
        Check.due("outermost to 80", bench.stepOutermost(0), 0);
        Check.due("has 80", bench.termSize(0), 80);
        bench.undo();
        Check.due("normalize to 80", bench.normalize(0), 1);
        Check.due("has 80", bench.termSize(0), 80);
        Check.throwsExactly("rewrite to 81", Check.ILLEGAL_ARGUMENT, () -> bench.rewrite(1, 1, 0));
        Check.throwsExactly("innermost to 81", Check.ILLEGAL_ARGUMENT, () -> bench.stepInnermost(1));
        Check.throwsExactly("outermost to 81", Check.ILLEGAL_ARGUMENT, () -> bench.stepOutermost(1));
        Check.throwsExactly("normalize over 81", Check.ILLEGAL_ARGUMENT, () -> bench.normalize(1));
        Check.due("still 40", bench.termSize(1), 40);
        OverlapBench full = TermEdges.longChain("rule f(a)=g(a,a);rule a=b;rule a=f(b);rule f(f(f(A)))=A;", 80);
        Check.throwsExactly("a node more at the end", Check.ILLEGAL_ARGUMENT, () -> full.rewrite(0, 0, 78));
        Check.throwsExactly("a node more in place of the last", Check.ILLEGAL_ARGUMENT, () -> full.rewrite(2, 0, 79));
        Check.due("as many nodes at the end", full.rewrite(1, 0, 79), 80);
        Check.due("three nodes less at the root", full.rewrite(3, 0, 0), 77);
    }

    private static void reductions(Doc doc) {
        doc.edge("3", "repeats innermost (or outermost) steps until");
        OverlapBench bench = Check.load(SYMBOLS + "rule f(A)=g(A,A);rule a=b;rule g(b,b)=h(b,b,b);rule g(a,A)=b;term f(a);"
                + "term f(b);term B");
        // innermost: f(b), g(b,b), h(b,b,b); outermost: g(a,a), b
        Check.due("innermost", bench.stepsInnermost(0), 3);
        Check.due("outermost", bench.stepsOutermost(0), 2);
        Check.due("innermost size", bench.normalFormSize(0), 4);
        Check.due("innermost text", Check.output(bench, bench.writeNormalForm(0)), "h(b,b,b)");
        Check.due("no step, innermost", bench.stepsInnermost(2), 0);
        Check.due("no step, outermost", bench.stepsOutermost(2), 0);
        Check.due("innermost, normalized", bench.normalize(0), 3);
        Check.due("to the last term", Check.term(bench, 0), "h(b,b,b)");
    }

    /** A count whose term n takes so many steps to z, innermost as outermost; 10 * tens + ones + 1 of them. */
    static OverlapBench counting(int... steps) {
        StringBuilder text = new StringBuilder("system;symbol z 0;symbol s 1;symbol c 2;rule c(A,s(B))=c(A,B);rule c(s(A),z)=c(A,"
                + number(9) + ");rule c(z,z)=z");
        for (int each : steps) {
            text.append(";term c(").append(number((each - 1) / 10)).append(',').append(number((each - 1) % 10)).append(')');
        }
        return Check.load(text.toString());
    }

    private static String number(int n) {
        return Check.repeat("s(", n) + "z" + Check.repeat(")", n);
    }

    private static void fails(Doc doc) {
        doc.edge("3", "not a normal form after 200 steps");
        OverlapBench limit = counting(200, 201);
        Check.due("200 innermost", limit.stepsInnermost(0), 200);
        Check.due("200 outermost", limit.stepsOutermost(0), 200);
        Check.due("201 innermost", limit.stepsInnermost(1), -1);
        Check.due("201 outermost", limit.stepsOutermost(1), -1);
        Check.throwsExactly("201 to normalize", Check.ILLEGAL_ARGUMENT, () -> limit.normalize(1));
        Check.due("200 to normalize", limit.normalize(0), 200);
        OverlapBench large = growing();
        Check.due("80 nodes innermost", large.stepsInnermost(0), 1);
        Check.due("80 nodes outermost", large.stepsOutermost(0), 1);
        Check.due("81 nodes innermost, though b comes next", large.stepsInnermost(1), -1);
        Check.due("81 nodes outermost, though b comes next", large.stepsOutermost(1), -1);
        large.removeRule(0);
        Check.due("a normal form before the step", large.stepsInnermost(0), 0);
    }

    private static void redexAnswers(Doc doc) {
        OverlapBench bench = Check.load(SYMBOLS + "rule f(A)=A;rule b=a;term h(a,f(A),f(f(b)));term f(a);term a;term A;term "
                + "g(a,b)");
        doc.edge("P29", "Returns the number of redexes");
        doc.plain("P29", "index of a term", "Returns the number of positions");
        int[] counts = {4, 1, 0, 0, 1};
        for (int i = 0; i < 5; i++) {
            Check.due("redexes " + i, bench.redexCount(i), counts[i]);
        }
        Check.due("80 redexes", TermEdges.longChain("rule f(A)=b;rule a=b;rule b=a;", 80).redexCount(0), 80);
        doc.plain("P30", "Returns the position of the innermost step", "index of a term");
        doc.edge("P30", "NONE if the term is a normal form");
        int[] inner = {2, 0, -1, -1, 2};
        for (int i = 0; i < 5; i++) {
            Check.due("innermost " + i, bench.innermostRedex(i), inner[i]);
        }
        doc.edge("P30", "Returns the position;");
        Check.due("the last of 80", TermEdges.longChain("rule f(A)=b;rule a=b;", 80).innermostRedex(0), 79);
        Check.due("the last f(f(..)) of 80", TermEdges.longChain("rule f(f(A))=a;", 80).innermostRedex(0), 77);
        Check.due("the root", Check.load(SYMBOLS + "rule f(A)=A;term f(a)").innermostRedex(0), 0);
        doc.plain("P31", "Returns the position of the outermost step", "index of a term");
        doc.edge("P31", "NONE if the term is a normal form");
        int[] outer = {2, 0, -1, -1, 2};
        for (int i = 0; i < 5; i++) {
            Check.due("outermost " + i, bench.outermostRedex(i), outer[i]);
        }
        doc.edge("P31", "Returns the position;");
        Check.due("the last of 80", TermEdges.longChain("rule f(b)=b;rule a=b;", 80).outermostRedex(0), 79);
        Check.due("the first of 80", TermEdges.longChain("rule f(A)=b;rule a=b;", 80).outermostRedex(0), 0);
        doc.plain("P32", "Tells whether a term is a normal form", "index of a term");
        doc.edge("P32", "true if it has no redex");
        for (int i = 0; i < 5; i++) {
            Check.due("normal " + i, bench.isNormalForm(i), counts[i] == 0);
        }
        Check.due("a redex at the last of 80", TermEdges.longChain("rule a=b;", 80).isNormalForm(0), false);
        Check.due("80 nodes without", TermEdges.longChain("rule b=a;", 80).isNormalForm(0), true);
    }

    private static void shares(Doc doc) {
        doc.plain("P33", "Returns the share of the terms");
        doc.edge("P33", "Returns the number of normal forms, converted to float");
        OverlapBench bench = Check.load(SYMBOLS + "rule b=a;term a;term b;term A;term f(b)");
        Check.due("two of four", bench.normalShare(), 0.5f);
        bench.removeTerm(0);
        Check.due("one of three", bench.normalShare(), 1.0f / 3.0f);
        bench.removeTerm(1);
        Check.due("none of two", bench.normalShare(), 0.0f);
        bench.removeRule(0);
        Check.due("all without rules", bench.normalShare(), 1.0f);
        OverlapBench six = Check.load(SYMBOLS + "rule b=a;term a;term a;term a;term a;term a;term b");
        Check.due("five of six", six.normalShare(), 5.0f / 6.0f);
        doc.edge("P33", "0.0f without terms");
        bench.removeTerm(0);
        bench.removeTerm(0);
        Check.due("no terms", bench.normalShare(), 0.0f);
        Check.due("nothing at all", Check.load("system").normalShare(), 0.0f);
    }

    private static void stepAnswers(Doc doc) {
        OverlapBench bench = counting(200, 201, 1, 2);
        bench.replaceSubterm(3, 0, 2);
        bench.rewrite(2, 3, 0);
        OverlapBench large = growing();
        OverlapBench loop = Check.load(SYMBOLS + "rule a=a;rule g(A,B)=B;term g(a,b);term a");
        doc.plain("P34", "Returns the number of innermost steps", "index of a term");
        doc.edge("P34", "NONE if the reduction fails");
        Check.due("no steps", bench.stepsInnermost(3), 0);
        Check.due("one step", bench.stepsInnermost(2), 1);
        Check.due("201 steps", bench.stepsInnermost(1), -1);
        Check.due("81 nodes", large.stepsInnermost(1), -1);
        Check.due("a loop inside", loop.stepsInnermost(0), -1);
        Check.due("a loop", loop.stepsInnermost(1), -1);
        doc.edge("P34", "the number of steps, 0 to 200");
        Check.due("200 steps", bench.stepsInnermost(0), 200);
        Check.due("again", bench.stepsInnermost(0), 200);
        Check.due("80 nodes", large.stepsInnermost(0), 1);
        Check.due("nothing has changed", bench.termSize(0), 31);
        doc.plain("P35", "Returns the number of outermost steps", "index of a term");
        doc.edge("P35", "NONE if the reduction fails");
        Check.due("201 steps", bench.stepsOutermost(1), -1);
        Check.due("81 nodes", large.stepsOutermost(1), -1);
        Check.due("a loop", loop.stepsOutermost(1), -1);
        doc.edge("P35", "the number of steps, 0 to 200");
        Check.due("no steps", bench.stepsOutermost(3), 0);
        Check.due("one step", bench.stepsOutermost(2), 1);
        Check.due("200 steps", bench.stepsOutermost(0), 200);
        Check.due("80 nodes", large.stepsOutermost(0), 1);
        Check.due("around the loop", loop.stepsOutermost(0), 1);
        doc.plain("P36", "Returns the number of nodes of the normal form", "index of a term", "Returns the number of nodes;");
        doc.edge("P36", "NONE if the reduction fails");
        Check.due("no steps", bench.normalFormSize(3), 1);
        Check.due("200 steps", bench.normalFormSize(0), 1);
        Check.due("201 steps", bench.normalFormSize(1), -1);
        Check.due("80 nodes", large.normalFormSize(0), 80);
        Check.due("81 nodes", large.normalFormSize(1), -1);
        Check.due("innermost steps run into the loop", loop.normalFormSize(0), -1);
        Check.due("nothing has changed", large.termSize(0), 40);
    }

    private static void normalForms(Doc doc) {
        doc.edge("constants", "these methods change nothing");
        OverlapBench bench = Check.load(SYMBOLS + "rule f(A)=A;rule b=b;term f(f(a));term f(a);term b");
        for (int i = 0; i < 3; i++) {
            bench.stepsInnermost(i);
            bench.stepsOutermost(i);
            bench.normalFormSize(i);
            bench.haveSameNormalForm(0, i);
            bench.haveSameNormalForm(i, 0);
        }
        Check.due("no change to undo", bench.undoCount(), 0);
        Check.due("the same system", Check.system(bench), "f(A)=A;b=b;f(f(a));f(a);b;");
    }

    private static void sameNormalForms(Doc doc) {
        doc.plain("P37", "Tells whether innermost steps lead from two terms", "`term`: index", "`other`: index");
        doc.edge("P37", "true if neither reduction fails and the normal forms are equal");
        OverlapBench bench = counting(200, 201, 1);
        Check.due("200 and 1", bench.haveSameNormalForm(0, 2), true);
        Check.due("1 and 200", bench.haveSameNormalForm(2, 0), true);
        Check.due("200 and 200", bench.haveSameNormalForm(0, 0), true);
        Check.due("201 and 1", bench.haveSameNormalForm(1, 2), false);
        Check.due("1 and 201", bench.haveSameNormalForm(2, 1), false);
        Check.due("201 and 201", bench.haveSameNormalForm(1, 1), false);
        OverlapBench large = growing();
        Check.due("80 nodes twice", large.haveSameNormalForm(0, 0), true);
        Check.due("81 nodes twice", large.haveSameNormalForm(1, 1), false);
        Check.due("81 nodes and b", large.haveSameNormalForm(1, 2), false);
        Check.due("b and 81 nodes", large.haveSameNormalForm(2, 1), false);
        Check.due("80 nodes and b", large.haveSameNormalForm(0, 2), false);
        OverlapBench other = Check.load(SYMBOLS + "rule f(A)=A;term f(A);term A;term B;term f(b);term g(A,f(b));term g(f(A),a)");
        Check.due("A and f(A)", other.haveSameNormalForm(0, 1), true);
        Check.due("A and B", other.haveSameNormalForm(0, 2), false);
        Check.due("A and b", other.haveSameNormalForm(1, 3), false);
        Check.due("the last node differs", other.haveSameNormalForm(4, 5), false);
    }

    private static void rewriteAnswers(Doc doc) {
        doc.plain("P51", "Rewrites a term with a rule", "index of a rule", "index of a term", "position in the term");
        doc.edge("P51", "Returns the number of nodes of the term afterwards");
        OverlapBench bench = Check.load(SYMBOLS + "rule f(A)=A;rule f(A)=h(A,A,A);rule f(A)=f(A);term f(f(a))");
        Check.due("a node less", bench.rewrite(0, 0, 0), 2);
        Check.due("to one node", bench.rewrite(0, 0, 0), 1);
        bench.undo();
        bench.undo();
        Check.due("more nodes at the root", bench.rewrite(1, 0, 0), 7);
        bench.undo();
        Check.due("more nodes below", bench.rewrite(1, 0, 1), 5);
        bench.undo();
        Check.due("as many", bench.rewrite(2, 0, 1), 3);
        Check.due("to 80", growing().rewrite(0, 0, 0), 80);
        doc.plain("P52", "Replaces a term by the result", "index of a term");
        doc.edge("P52", "Returns the position of the step");
        Check.due("the root", Check.load(SYMBOLS + "rule f(A)=a;term f(a)").stepInnermost(0), 0);
        OverlapBench last = TermEdges.longChain("rule a=b;rule f(A)=b;", 80);
        Check.due("the last of 80 nodes", last.stepInnermost(0), 79);
        Check.due("the one before it", last.stepInnermost(0), 78);
        doc.plain("P53", "Replaces a term by the result", "index of a term");
        doc.edge("P53", "Returns the position of the step");
        Check.due("the root of 79 nodes", last.stepOutermost(0), 0);
        Check.due("is b afterwards", Check.term(last, 0), "b");
        Check.due("the last of 80 nodes", TermEdges.longChain("rule a=b;", 80).stepOutermost(0), 79);
    }

    private static void normalizeAnswers(Doc doc) {
        doc.plain("P54", "Replaces a term by the normal form", "index of a term");
        doc.edge("P54", "Returns the number of steps");
        OverlapBench bench = counting(200, 1);
        Check.due("200 steps", bench.normalize(0), 200);
        Check.due("one step", bench.normalize(1), 1);
        Check.due("no step", bench.normalize(1), 0);
        Check.due("three changes", bench.undoCount(), 3);
        Check.due("normal forms", Check.term(bench, 0) + Check.term(bench, 1), "zz");
        OverlapBench large = growing();
        Check.due("to 80 nodes", large.normalize(0), 1);
        Check.due("has 80", large.termSize(0), 80);
    }
}
