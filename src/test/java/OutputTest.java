/** Promises 46 to 50: written terms, rules, normal forms and pairs. */
public final class OutputTest {
    private static final String TEXT = "system;symbol zero 0;symbol s 1;symbol add 2;symbol triple 3;"
            + "rule add(zero,A)=A;rule add(s(A),B)=s(add(A,B));rule triple(A,B,H)=H;rule zero=zero";

    public static void main(String[] args) {
        terms();
        rules();
        normalForms();
        pairs();
        longest();
        bytes();
        wrongIndices();
        Check.finish();
    }

    private static void terms() {
        OverlapBench bench = Check.load("system;symbol zero 0;symbol s 1;symbol add 2;symbol triple 3;term A;term H;"
                + "term zero;term s ( zero );term triple(add(s(B),zero),C,s(s(triple(A,A,D))));"
                + "term add(add(A,s(B)),add(zero,zero))");
        String[] texts = {"A", "H", "zero", "s(zero)", "triple(add(s(B),zero),C,s(s(triple(A,A,D))))",
            "add(add(A,s(B)),add(zero,zero))"};
        for (int i = 0; i < texts.length; i++) {
            Check.due("length of " + texts[i], bench.writeTerm(i), texts[i].length());
            Check.due("writeTerm " + i, Check.term(bench, i), texts[i]);
        }
    }

    private static void rules() {
        OverlapBench bench = Check.load(TEXT);
        String[] texts = {"add(zero,A)=A", "add(s(A),B)=s(add(A,B))", "triple(A,B,H)=H", "zero=zero"};
        for (int i = 0; i < texts.length; i++) {
            Check.due("length of " + texts[i], bench.writeRule(i), texts[i].length());
            Check.due("writeRule " + i, Check.rule(bench, i), texts[i]);
        }
    }

    private static void normalForms() {
        OverlapBench bench = Check.load("system;symbol zero 0;symbol s 1;symbol add 2;symbol w 0;rule add(zero,A)=A;"
                + "rule add(s(A),B)=s(add(A,B));rule w=w;term add(s(zero),s(A));term s(w);term B;term w");
        Check.due("normal form", Check.output(bench, bench.writeNormalForm(0)), "s(s(A))");
        Check.due("no normal form", Check.output(bench, bench.writeNormalForm(1)), "?");
        Check.due("a normal form itself", Check.output(bench, bench.writeNormalForm(2)), "B");
        Check.due("no normal form of w", bench.writeNormalForm(3), 1);
        Check.due("the terms stay", Check.term(bench, 0), "add(s(zero),s(A))");
        Check.due("no change", bench.undoCount(), 0);
        OverlapBench inner = Check.load("system;symbol a 0;symbol b 0;symbol k 2;rule a=a;rule k(A,B)=B;term k(a,b)");
        Check.due("innermost steps count", Check.output(inner, inner.writeNormalForm(0)), "?");
        OverlapBench grow = Check.load("system;symbol a 0;symbol f 1;rule a=f(a);term a");
        Check.due("too large", Check.output(grow, grow.writeNormalForm(0)), "?");
    }

    private static void pairs() {
        OverlapBench bench = Check.load("system;symbol e 0;symbol m 2;rule m(e,H)=H;rule m(m(H,G),F)=m(H,m(G,F))");
        Check.due("pairs", bench.criticalPairCount(), 2);
        Check.due("length", bench.writePair(0), "m(e,m(A,B))<>m(A,B)".length());
        Check.due("pair 0", Check.pair(bench, 0), "m(e,m(A,B))<>m(A,B)");
        Check.due("pair 1", Check.pair(bench, 1), "m(m(A,B),m(C,D))<>m(m(A,m(B,C)),D)");
        OverlapBench order = Check.load("system;symbol a 0;symbol f 2;symbol g 2;rule f(A,B)=g(B,A);rule f(C,B)=f(C,B)");
        Check.due("named by the first term", Check.pair(order, 0), "g(A,B)<>f(B,A)");
        Check.due("and the other pair", Check.pair(order, 1), "f(A,B)<>g(B,A)");
        OverlapBench later = Check.load("system;symbol a 0;symbol f 2;rule f(A,B)=a;rule f(A,B)=f(B,A)");
        Check.due("named by the second term", Check.pair(later, 0), "a<>f(A,B)");
    }

    private static void longest() {
        // 80 nodes with names of six letters: the longest written terms.
        OverlapBench bench = Check.load("system;symbol abcdef 0;symbol ghijkl 1;term ghijkl(ghijkl(ghijkl(ghijkl("
                + "ghijkl(ghijkl(ghijkl(ghijkl(ghijkl(ghijkl(A))))))))));copy 0");
        for (int i = 0; i < 6; i++) {
            bench.replaceSubterm(0, 10 * (i + 1), 1);
        }
        bench.copySubterm(0, 61);
        bench.replaceSubterm(0, 70, 2);
        Check.due("size", bench.termSize(0), 80);
        String text = Check.repeat("ghijkl(", 79) + "A" + Check.repeat(")", 79);
        Check.longOutput("long", bench, bench.writeTerm(0), text);
        OverlapBench wide = Check.load("system;symbol abcdef 0;symbol ghijkl 3;term ghijkl(ghijkl(ghijkl(abcdef,abcdef,"
                + "abcdef),ghijkl(abcdef,abcdef,abcdef),abcdef),A,A)");
        wide.replaceSubterm(0, 12, 0);
        wide.copySubterm(0, 0);
        wide.replaceSubterm(0, wide.termSize(0) - 1, 1);
        wide.replaceSubterm(0, wide.termSize(0) - 1, 1);
        Check.due("wide size", wide.termSize(0), 73);
        String leaves = "ghijkl(abcdef,abcdef,abcdef)";
        String part = "ghijkl(ghijkl(" + leaves + "," + leaves + ",abcdef),A,";
        Check.longOutput("wide", wide, wide.writeTerm(0), Check.repeat(part, 6) + "A" + Check.repeat(")", 6));
    }

    private static void bytes() {
        OverlapBench bench = Check.load(TEXT + ";term s(zero);term A");
        Check.throwsExactly("before the first output", Check.OUT_OF_BOUNDS, () -> bench.outputByte(0));
        Check.due("written", bench.writeTerm(0), 7);
        Check.due("byte 0", bench.outputByte(0), (int) 's');
        Check.due("byte 1", bench.outputByte(1), (int) '(');
        Check.due("byte 6", bench.outputByte(6), (int) ')');
        for (int i : new int[] {-1, 7, Integer.MIN_VALUE, Integer.MAX_VALUE}) {
            Check.throwsExactly("byte " + i, Check.OUT_OF_BOUNDS, () -> bench.outputByte(i));
        }
        Check.due("a shorter output", bench.writeTerm(1), 1);
        Check.due("its byte", bench.outputByte(0), (int) 'A');
        Check.throwsExactly("its end", Check.OUT_OF_BOUNDS, () -> bench.outputByte(1));
        bench.removeTerm(1);
        bench.undo();
        Check.throwsExactly("no term 2", Check.OUT_OF_BOUNDS, () -> bench.writeTerm(2));
        Check.throwsExactly("no rule 4", Check.OUT_OF_BOUNDS, () -> bench.writeRule(4));
        Check.due("the output stays", Check.output(bench, 1), "A");
    }

    private static void wrongIndices() {
        OverlapBench bench = Check.load(TEXT + ";term s(zero)");
        bench.writeTerm(0);
        for (int i : new int[] {-1, 6, Integer.MIN_VALUE, Integer.MAX_VALUE}) {
            Check.throwsExactly("writeTerm " + i, Check.OUT_OF_BOUNDS, () -> bench.writeTerm(i));
            Check.throwsExactly("writeRule " + i, Check.OUT_OF_BOUNDS, () -> bench.writeRule(i));
            Check.throwsExactly("writeNormalForm " + i, Check.OUT_OF_BOUNDS, () -> bench.writeNormalForm(i));
            Check.throwsExactly("writePair " + i, Check.OUT_OF_BOUNDS, () -> bench.writePair(i));
        }
        Check.throwsExactly("writeTerm 1", Check.OUT_OF_BOUNDS, () -> bench.writeTerm(1));
        Check.throwsExactly("writeNormalForm 1", Check.OUT_OF_BOUNDS, () -> bench.writeNormalForm(1));
        Check.due("the output stays", Check.output(bench, 7), "s(zero)");
    }
}
