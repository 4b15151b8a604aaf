/** Promises 27 to 37: matching, redexes, and reductions that change nothing. */
public final class RewriteTest {
    private static final String ADD = "system;symbol z 0;symbol s 1;symbol p 2;rule p(z,A)=A;rule p(s(A),B)=s(p(A,B));";

    public static void main(String[] args) {
        matching();
        sharedLetters();
        redexes();
        shares();
        reductions();
        failures();
        stepLimit();
        sameNormalForms();
        wrongIndices();
        Check.finish();
    }

    private static void matching() {
        OverlapBench bench = Check.load("system;symbol a 0;symbol b 0;symbol f 1;symbol g 2;rule g(A,A)=a;rule g(a,B)=B;"
                + "rule f(f(A))=A;rule g(f(A),g(A,B))=B;term g(g(a,b),g(a,b));term g(a,b);term f(f(f(b)));"
                + "term g(f(b),g(b,a));term g(f(b),g(a,a));term g(f(g(a,C)),g(g(a,C),C))");
        Check.due("equal arguments match", bench.matches(0, 0, 0), true);
        Check.due("other arguments do not", bench.matches(0, 0, 1), false);
        Check.due("a and b", bench.matches(1, 0, 1), true);
        Check.due("the second g", bench.matches(1, 0, 4), true);
        Check.due("a is no g", bench.matches(1, 0, 2), false);
        Check.due("a is not g(..)", bench.matches(1, 0, 0), false);
        Check.due("ff at 0", bench.matches(2, 2, 0), true);
        Check.due("ff at 1", bench.matches(2, 2, 1), true);
        Check.due("ff at 2", bench.matches(2, 2, 2), false);
        Check.due("ff at b", bench.matches(2, 2, 3), false);
        Check.due("nested", bench.matches(3, 3, 0), true);
        Check.due("nested, other", bench.matches(3, 4, 0), false);
        Check.due("nested, greater", bench.matches(3, 5, 0), true);
        Check.due("ruleAt, the first of two", bench.ruleAt(1, 0), 1);
        Check.due("ruleAt 0", bench.ruleAt(0, 0), 0);
        Check.due("ruleAt 1", bench.ruleAt(0, 1), 1);
        Check.due("ruleAt none", bench.ruleAt(0, 2), OverlapBench.NONE);
        Check.due("ruleAt 3", bench.ruleAt(3, 0), 3);
        Check.due("ruleAt g(a,a)", bench.ruleAt(4, 3), 0);
        bench.swapRules(0, 1);
        Check.due("ruleAt after a swap", bench.ruleAt(4, 3), 0);
        Check.due("the other one matches too", bench.matches(1, 4, 3), true);
    }

    private static void sharedLetters() {
        OverlapBench bench = Check.load("system;symbol f 1;symbol g 2;rule g(A,f(B))=A;rule g(A,A)=A;term g(f(A),f(A));"
                + "term g(B,A);term g(B,f(A));term A;term g(B,B);term f(A)");
        Check.due("letters are the term's", bench.matches(0, 0, 0), true);
        Check.due("a variable is no f", bench.matches(0, 1, 0), false);
        Check.due("B and A are other terms", bench.matches(1, 1, 0), false);
        Check.due("A by B, B by A", bench.matches(0, 2, 0), true);
        Check.due("a variable alone", bench.matches(0, 3, 0), false);
        Check.due("B twice", bench.matches(1, 4, 0), true);
        Check.due("f(A) equals f(A)", bench.matches(1, 0, 0), true);
        Check.due("rewritten", bench.rewrite(0, 2, 0), 1);
        Check.due("to B", Check.term(bench, 2), "B");
    }

    private static void redexes() {
        // 0 g, 1 f, 2 f, 3 a, 4 g, 5 a, 6 f, 7 f, 8 a
        OverlapBench bench = Check.load("system;symbol a 0;symbol f 1;symbol g 2;rule f(f(A))=A;rule g(A,B)=A;"
                + "term g(f(f(a)),g(a,f(f(a))));term g(a,f(f(f(a))));term f(a);term f(f(f(f(a))));term A;term f(g(a,a))");
        int[] counts = {4, 3, 0, 3, 0, 1};
        int[] inner = {1, 3, -1, 2, -1, 1};
        int[] outer = {0, 0, -1, 0, -1, 1};
        for (int i = 0; i < 6; i++) {
            Check.due("redexCount " + i, bench.redexCount(i), counts[i]);
            Check.due("innermostRedex " + i, bench.innermostRedex(i), inner[i]);
            Check.due("outermostRedex " + i, bench.outermostRedex(i), outer[i]);
            Check.due("isNormalForm " + i, bench.isNormalForm(i), counts[i] == 0);
        }
        bench.removeRule(1);
        Check.due("innermost without rule 1", bench.innermostRedex(0), 1);
        Check.due("outermost without rule 1", bench.outermostRedex(0), 1);
        Check.due("count without rule 1", bench.redexCount(0), 2);
    }

    private static void shares() {
        Check.due("share without terms", Check.load("system").normalShare(), 0.0f);
        OverlapBench bench = Check.load("system;symbol a 0;symbol f 1;rule f(a)=a;term a;term f(a);term f(f(a))");
        Check.due("one of three", bench.normalShare(), 1.0f / 3.0f);
        bench.removeTerm(0);
        Check.due("none of two", bench.normalShare(), 0.0f);
        Check.due("all", Check.load("system;term A").normalShare(), 1.0f);
    }

    private static void reductions() {
        OverlapBench bench = Check.load(ADD + "term p(s(s(z)),s(z));term p(p(s(z),z),p(z,A));term s(B)");
        Check.due("2 + 1 innermost", bench.stepsInnermost(0), 3);
        Check.due("2 + 1 outermost", bench.stepsOutermost(0), 3);
        Check.due("2 + 1 size", bench.normalFormSize(0), 4);
        Check.due("sum innermost", bench.stepsInnermost(1), 5);
        Check.due("sum outermost", bench.stepsOutermost(1), 5);
        Check.due("sum size", bench.normalFormSize(1), 2);
        Check.due("normal innermost", bench.stepsInnermost(2), 0);
        Check.due("normal outermost", bench.stepsOutermost(2), 0);
        Check.due("normal size", bench.normalFormSize(2), 2);
        Check.due("nothing changed", Check.term(bench, 0), "p(s(s(z)),s(z))");
        Check.due("no change counted", bench.undoCount(), 0);

        // The argument that f doubles has one step: innermost does it once, outermost twice.
        OverlapBench twice = Check.load("system;symbol a 0;symbol b 0;symbol f 1;symbol g 2;rule f(A)=g(A,A);rule a=b;"
                + "term f(a)");
        Check.due("innermost once", twice.stepsInnermost(0), 2);
        Check.due("outermost twice", twice.stepsOutermost(0), 3);
        Check.due("the size", twice.normalFormSize(0), 3);
    }

    private static void failures() {
        OverlapBench bench = Check.load("system;symbol a 0;symbol b 0;symbol f 1;symbol k 2;rule a=a;rule k(A,B)=B;"
                + "term a;term k(a,b);term f(b)");
        Check.due("a loop", bench.stepsInnermost(0), OverlapBench.NONE);
        Check.due("a loop outermost", bench.stepsOutermost(0), OverlapBench.NONE);
        Check.due("a loop's size", bench.normalFormSize(0), OverlapBench.NONE);
        Check.due("innermost runs into the loop", bench.stepsInnermost(1), OverlapBench.NONE);
        Check.due("outermost leaves it", bench.stepsOutermost(1), 1);
        Check.due("the size is that of innermost steps", bench.normalFormSize(1), OverlapBench.NONE);
        Check.due("and so is equality", bench.haveSameNormalForm(1, 1), false);
        Check.due("loops have no normal form", bench.haveSameNormalForm(0, 0), false);
        Check.due("nor with another", bench.haveSameNormalForm(2, 0), false);
        Check.due("nor the other way", bench.haveSameNormalForm(0, 2), false);

        OverlapBench grow = Check.load("system;symbol a 0;symbol f 1;symbol g 2;rule a=f(a);term a");
        Check.due("too large", grow.stepsInnermost(0), OverlapBench.NONE);
        Check.due("too large outermost", grow.stepsOutermost(0), OverlapBench.NONE);

        // A term of 39 nodes is doubled to 79 and, with a further f, to 80.
        String tree = Check.repeat("s(", 38) + "z" + Check.repeat(")", 38);
        String rules = "system;symbol z 0;symbol s 1;symbol d 1;symbol e 1;symbol g 2;rule d(A)=s(g(A,A));"
                + "rule e(A)=s(s(g(A,A)));";
        OverlapBench fits = Check.load(rules + "term d(" + tree + ");term e(" + tree + ")");
        Check.due("80 nodes fit", fits.normalFormSize(0), 80);
        Check.due("80 nodes, innermost", fits.stepsInnermost(0), 1);
        Check.due("81 nodes do not", fits.normalFormSize(1), OverlapBench.NONE);
        Check.due("81 nodes, innermost", fits.stepsInnermost(1), OverlapBench.NONE);
        Check.due("81 nodes, outermost", fits.stepsOutermost(1), OverlapBench.NONE);
    }

    private static void stepLimit() {
        // c(n, m) takes m + 10 n + 1 steps to z.
        OverlapBench bench = Check.load("system;symbol z 0;symbol s 1;symbol c 2;rule c(A,s(B))=c(A,B);rule c(s(A),z)=c(A,"
                + number(9) + ");rule c(z,z)=z;term c(" + number(19) + "," + number(9) + ");term c(" + number(19) + ","
                + number(10) + ");term c(" + number(1) + "," + number(0) + ")");
        Check.due("200 innermost", bench.stepsInnermost(0), 200);
        Check.due("200 outermost", bench.stepsOutermost(0), 200);
        Check.due("200 size", bench.normalFormSize(0), 1);
        Check.due("201 innermost", bench.stepsInnermost(1), OverlapBench.NONE);
        Check.due("201 outermost", bench.stepsOutermost(1), OverlapBench.NONE);
        Check.due("201 size", bench.normalFormSize(1), OverlapBench.NONE);
        Check.due("11", bench.stepsInnermost(2), 11);
        Check.due("201 and 200", bench.haveSameNormalForm(1, 0), false);
        Check.due("200 and 201", bench.haveSameNormalForm(0, 1), false);
        Check.due("200 and 11", bench.haveSameNormalForm(0, 2), true);
        bench.stepInnermost(1);
        Check.due("200 are left", bench.stepsInnermost(1), 200);
    }

    private static String number(int n) {
        return Check.repeat("s(", n) + "z" + Check.repeat(")", n);
    }

    private static void sameNormalForms() {
        OverlapBench bench = Check.load(ADD + "term p(s(z),s(z));term s(s(z));term p(s(A),z);term s(p(A,z));term s(s(A));"
                + "term p(z,s(s(B)))");
        Check.due("1 + 1 = 2", bench.haveSameNormalForm(0, 1), true);
        Check.due("2 = 1 + 1", bench.haveSameNormalForm(1, 0), true);
        Check.due("with variables", bench.haveSameNormalForm(2, 3), true);
        Check.due("not 2", bench.haveSameNormalForm(0, 2), false);
        Check.due("other variables", bench.haveSameNormalForm(4, 5), false);
        Check.due("itself", bench.haveSameNormalForm(5, 5), true);
    }

    private static void wrongIndices() {
        OverlapBench bench = Check.load(ADD + "term p(z,z);term z");
        for (int i : new int[] {-1, 2, 6, Integer.MIN_VALUE, Integer.MAX_VALUE}) {
            Check.throwsExactly("matches rule " + i, Check.OUT_OF_BOUNDS, () -> bench.matches(i, 0, 0));
            Check.throwsExactly("matches term " + i, Check.OUT_OF_BOUNDS, () -> bench.matches(0, i, 0));
            Check.throwsExactly("matches at " + i, Check.OUT_OF_BOUNDS, () -> bench.matches(0, 1, i));
            Check.throwsExactly("ruleAt term " + i, Check.OUT_OF_BOUNDS, () -> bench.ruleAt(i, 0));
            Check.throwsExactly("ruleAt " + i, Check.OUT_OF_BOUNDS, () -> bench.ruleAt(1, i));
            Check.throwsExactly("redexCount " + i, Check.OUT_OF_BOUNDS, () -> bench.redexCount(i));
            Check.throwsExactly("innermostRedex " + i, Check.OUT_OF_BOUNDS, () -> bench.innermostRedex(i));
            Check.throwsExactly("outermostRedex " + i, Check.OUT_OF_BOUNDS, () -> bench.outermostRedex(i));
            Check.throwsExactly("isNormalForm " + i, Check.OUT_OF_BOUNDS, () -> bench.isNormalForm(i));
            Check.throwsExactly("stepsInnermost " + i, Check.OUT_OF_BOUNDS, () -> bench.stepsInnermost(i));
            Check.throwsExactly("stepsOutermost " + i, Check.OUT_OF_BOUNDS, () -> bench.stepsOutermost(i));
            Check.throwsExactly("normalFormSize " + i, Check.OUT_OF_BOUNDS, () -> bench.normalFormSize(i));
            Check.throwsExactly("haveSame " + i, Check.OUT_OF_BOUNDS, () -> bench.haveSameNormalForm(i, 0));
            Check.throwsExactly("haveSame 0 " + i, Check.OUT_OF_BOUNDS, () -> bench.haveSameNormalForm(0, i));
        }
        Check.throwsExactly("position 3", Check.OUT_OF_BOUNDS, () -> bench.matches(0, 0, 3));
        Check.throwsExactly("ruleAt position 3", Check.OUT_OF_BOUNDS, () -> bench.ruleAt(0, 3));
    }
}
