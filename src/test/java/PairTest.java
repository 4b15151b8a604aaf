/** Promises 38 to 45: unification and critical pairs. */
public final class PairTest {
    private static final String GROUP = "system;symbol e 0;symbol i 1;symbol m 2;rule m(m(A,B),C)=m(A,m(B,C));"
            + "rule m(e,A)=A;rule m(i(A),A)=e";

    public static void main(String[] args) {
        unifying();
        cycles();
        hugeUnifiers();
        groupPairs();
        numbering();
        firstTwenty();
        largePairs();
        manyVariables();
        joinLimit();
        joinFailures();
        changedRules();
        wrongIndices();
        Check.finish();
    }

    private static void unified(String first, String second, int size) {
        OverlapBench bench = Check.load("system;symbol a 0;symbol b 0;symbol f 1;symbol g 2;symbol h 3;term " + first
                + ";term " + second);
        String what = first + " and " + second;
        boolean unifies = size != 0;
        Check.due("unify " + what, bench.unify(0, 1), unifies);
        Check.due("unify back " + what, bench.unify(1, 0), unifies);
        Check.due("size " + what, bench.unifiedSize(0, 1), unifies ? size : OverlapBench.NONE);
        Check.due("size back " + what, bench.unifiedSize(1, 0), unifies ? size : OverlapBench.NONE);
    }

    private static void unifying() {
        unified("a", "a", 1);
        unified("a", "b", 0);
        unified("A", "a", 1);
        unified("A", "B", 1);
        unified("A", "A", 1);
        unified("A", "f(A)", 2);
        unified("f(A)", "f(f(A))", 3);
        unified("f(A)", "g(A,A)", 0);
        unified("f(a)", "f(b)", 0);
        unified("g(A,a)", "g(b,A)", 3);
        unified("g(A,A)", "g(a,b)", 0);
        unified("g(A,A)", "g(a,B)", 3);
        unified("g(A,B)", "g(B,A)", 3);
        unified("g(A,f(A))", "g(f(B),C)", 6);
        unified("h(A,B,A)", "h(f(C),C,f(g(a,a)))", 12);
        unified("h(a,b,A)", "h(H,H,H)", 0);
        unified("h(H,H,H)", "h(H,a,B)", 4);
        unified("h(A,B,f(H))", "h(B,f(B),H)", 6);
    }

    private static void cycles() {
        unified("g(A,A)", "g(B,f(B))", 0);
        unified("g(A,f(A))", "g(f(B),B)", 0);
        unified("g(A,A)", "g(f(B),B)", 0);
        unified("h(A,B,A)", "h(f(C),C,f(f(C)))", 0);
        unified("h(A,B,g(A,B))", "h(C,D,g(f(D),f(C)))", 0);
        unified("g(A,g(A,B))", "g(B,g(f(C),f(B)))", 9);
        OverlapBench bench = Check.load("system;symbol f 1;symbol g 2;term g(A,f(A));term g(f(A),A);term A");
        Check.due("a term and itself", bench.unify(0, 0), true);
        Check.due("its size", bench.unifiedSize(0, 0), 4);
        Check.due("turned around", bench.unify(0, 1), false);
        Check.due("a variable", bench.unify(2, 1), true);
        Check.due("a variable, size", bench.unifiedSize(0, 2), 4);
    }

    private static void hugeUnifiers() {
        // 40 nodes each: every entry of the list triples the size of the one before it.
        String first = "g(A,g(h(B,B,B),g(B,g(h(C,C,C),g(C,g(h(D,D,D),g(D,g(h(E,E,E),g(E,g(h(F,F,F),F))))))))))";
        String second = "g(h(A,A,A),g(A,g(h(B,B,B),g(B,g(h(C,C,C),g(C,g(h(D,D,D),g(D,g(h(E,E,E),g(E,F))))))))))";
        unifiedHuge(first, second);
        unified("g(A,g(h(B,B,B),B))", "g(h(A,A,A),g(A,h(B,B,B)))", 1 + 40 + 1 + 13 + 4);
        unified("g(A,A)", "g(B,h(h(a,h(a,a,a),h(a,a,a)),h(h(a,a,a),h(a,a,a),h(a,a,a)),h(a,a,h(a,a,a))))", 63);

        OverlapBench bench = Check.load("system;symbol a 0;symbol f 1;symbol g 2;term g(A,f(A));term g(A,A);term g("
                + Check.repeat("f(", 36) + "a" + Check.repeat(")", 36) + ",B);term f(f(a));term f(a)");
        Check.due("2 + 2 * 37", bench.unifiedSize(0, 2), 76);
        bench.replaceSubterm(2, 37, 3);
        Check.due("2 + 2 * 39", bench.unifiedSize(0, 2), 80);
        Check.due("1 + 2 * 39", bench.unifiedSize(2, 1), 79);
        bench.replaceSubterm(2, 39, 4);
        Check.due("1 + 2 * 40 is too large", bench.unifiedSize(1, 2), OverlapBench.NONE);
        Check.due("2 + 2 * 40 is too large", bench.unifiedSize(2, 0), OverlapBench.NONE);
        Check.due("but unifies", bench.unify(1, 2), true);
    }

    private static void unifiedHuge(String first, String second) {
        OverlapBench bench = Check.load("system;symbol g 2;symbol h 3;term " + first + ";term " + second);
        Check.due("huge unifies", bench.unify(0, 1), true);
        Check.due("huge unifies back", bench.unify(1, 0), true);
        Check.due("huge", bench.unifiedSize(0, 1), OverlapBench.NONE);
        Check.due("huge back", bench.unifiedSize(1, 0), OverlapBench.NONE);
    }

    private static void pair(OverlapBench bench, int pair, String due, boolean joins) {
        String got = bench.pairOuterRule(pair) + " " + bench.pairInnerRule(pair) + " " + bench.pairPosition(pair) + " "
                + Check.pair(bench, pair);
        Check.due("pair " + pair, got, due);
        Check.due("pairJoins " + pair, bench.pairJoins(pair), joins);
    }

    private static void groupPairs() {
        OverlapBench bench = Check.load(GROUP);
        Check.due("pairs of a group", bench.criticalPairCount(), 3);
        pair(bench, 0, "0 0 1 m(m(A,B),m(C,D))<>m(m(A,m(B,C)),D)", true);
        pair(bench, 1, "0 1 1 m(e,m(A,B))<>m(A,B)", true);
        pair(bench, 2, "0 2 1 m(i(A),m(A,B))<>m(e,B)", false);
        Check.due("unjoined of a group", bench.unjoinedPairs(), 1);
        Check.due("no rules", Check.load("system").criticalPairCount(), 0);
        Check.due("no rules, unjoined", Check.load("system").unjoinedPairs(), 0);
    }

    private static void numbering() {
        OverlapBench bench = Check.load("system;symbol a 0;symbol b 0;symbol c 0;symbol f 1;symbol g 2;rule f(A)=a;"
                + "rule f(b)=c;rule g(f(A),f(f(A)))=g(A,A);rule f(f(B))=B");
        Check.due("pairs", bench.criticalPairCount(), 15);
        pair(bench, 0, "0 1 0 a<>c", false);
        pair(bench, 1, "0 3 0 a<>A", false);
        pair(bench, 2, "1 0 0 c<>a", false);
        pair(bench, 3, "2 0 1 g(A,A)<>g(a,f(f(A)))", false);
        pair(bench, 4, "2 0 3 g(A,A)<>g(f(A),a)", false);
        pair(bench, 5, "2 0 4 g(A,A)<>g(f(A),f(a))", false);
        pair(bench, 6, "2 1 1 g(b,b)<>g(c,f(f(b)))", false);
        pair(bench, 7, "2 1 4 g(b,b)<>g(f(b),f(c))", false);
        pair(bench, 8, "2 3 1 g(f(A),f(A))<>g(A,f(f(f(A))))", false);
        pair(bench, 9, "2 3 3 g(A,A)<>g(f(A),A)", false);
        pair(bench, 10, "2 3 4 g(f(A),f(A))<>g(f(f(A)),f(A))", true);
        pair(bench, 11, "3 0 0 A<>a", false);
        pair(bench, 12, "3 0 1 A<>f(a)", false);
        pair(bench, 13, "3 1 1 b<>f(c)", false);
        pair(bench, 14, "3 3 1 f(A)<>f(A)", true);
    }

    private static void firstTwenty() {
        String rules = "system;symbol a 0;symbol f 1;";
        OverlapBench bench = Check.load(rules + Check.repeat("rule f(A)=A;", 5) + "rule f(A)=a");
        Check.due("30 pairs, 20 kept", bench.criticalPairCount(), 20);
        pair(bench, 0, "0 1 0 A<>A", true);
        pair(bench, 4, "0 5 0 A<>a", false);
        pair(bench, 5, "1 0 0 A<>A", true);
        pair(bench, 19, "3 5 0 A<>a", false);
        Check.due("unjoined of the 20", bench.unjoinedPairs(), 4);
        Check.throwsExactly("pair 20", Check.OUT_OF_BOUNDS, () -> bench.pairJoins(20));
        bench.removeRule(5);
        Check.due("20 pairs", bench.criticalPairCount(), 20);
        Check.due("the last of 20", bench.pairOuterRule(19), 4);
        bench.removeRule(0);
        Check.due("12 pairs", bench.criticalPairCount(), 12);
        OverlapBench self = Check.load(rules + "rule f(f(f(A)))=A");
        Check.due("not at the root", self.criticalPairCount(), 2);
        pair(self, 0, "0 0 1 f(A)<>f(A)", true);
        pair(self, 1, "0 0 2 f(f(A))<>f(f(A))", true);
    }

    private static void largePairs() {
        String symbols = "system;symbol c 0;symbol f 1;symbol g 2;symbol h 3;symbol t 3;";
        String inner = "rule t(h(A,A,A),A,h(B,B,B))=A";
        OverlapBench fits = Check.load(symbols + "rule t(A,h(B,B,B),B)=A;" + inner);
        Check.due("40 and 13 nodes", fits.criticalPairCount(), 2);
        String four = "h(A,A,A)";
        String thirteen = "h(" + four + "," + four + "," + four + ")";
        String forty = "h(" + thirteen + "," + thirteen + "," + thirteen + ")";
        pair(fits, 0, "0 1 0 " + forty + "<>" + thirteen, false);
        pair(fits, 1, "1 0 0 " + thirteen + "<>" + forty, false);
        OverlapBench large = Check.load(symbols + "rule t(A,h(B,B,B),B)=g(A,A);" + inner);
        Check.due("81 nodes, as first and as second term", large.criticalPairCount(), 0);
        Check.due("81 nodes, unjoined", large.unjoinedPairs(), 0);
        OverlapBench eighty = Check.load(symbols + "rule t(A,h(B,B,B),B)=g(A,f(f(f(h(B,B,h(B,B,B))))));"
                + "rule t(h(A,A,A),A,h(B,B,f(B)))=A");
        Check.due("80 nodes", eighty.criticalPairCount(), 2);
        // Large pairs take no number, and the 20 are counted without them.
        OverlapBench mixed = Check.load(symbols + "rule t(A,h(B,B,B),B)=g(A,A);" + inner + ";rule f(A)=A;rule f(A)=c");
        Check.due("the others", mixed.criticalPairCount(), 2);
        pair(mixed, 0, "2 3 0 A<>c", false);
        pair(mixed, 1, "3 2 0 c<>A", false);
    }

    private static void manyVariables() {
        OverlapBench bench = Check.load("system;symbol h 3;symbol q 3;rule h(q(A,B,C),D,h(E,F,G))=h(h(A,B,C),D,h(E,F,G));"
                + "rule q(h(A,B,C),D,E)=A");
        int pairs = bench.criticalPairCount();
        boolean found = false;
        for (int i = 0; i < pairs; i++) {
            if (bench.pairOuterRule(i) == 0 && bench.pairInnerRule(i) == 1) {
                found = true;
                pair(bench, i, "0 1 1 h(h(h(A,B,C),D,E),F,h(G,H,I))<>h(A,F,h(G,H,I))", false);
            }
        }
        Check.due("with the variable I", found, true);
    }

    private static String number(int n) {
        return Check.repeat("s(", n) + "z" + Check.repeat(")", n);
    }

    /** A system with two pairs: the constant w leads to z and to a count that takes steps to z. */
    private static OverlapBench counting(int again, int n, int m) {
        return Check.load("system;symbol z 0;symbol s 1;symbol c 2;symbol w 0;rule c(A,s(B))=c(A,B);rule c(s(A),z)=c(A,"
                + number(again) + ");rule c(z,z)=z;rule w=c(" + number(n) + "," + number(m) + ");rule w=z");
    }

    private static void joinLimit() {
        OverlapBench fifty = counting(8, 5, 4);
        Check.due("50 steps: pairs", fifty.criticalPairCount(), 2);
        Check.due("50 steps: first term", fifty.pairJoins(0), true);
        Check.due("50 steps: second term", fifty.pairJoins(1), true);
        Check.due("50 steps: unjoined", fifty.unjoinedPairs(), 0);
        OverlapBench more = counting(9, 5, 0);
        Check.due("51 steps: pairs", more.criticalPairCount(), 2);
        Check.due("51 steps: first term", more.pairJoins(0), false);
        Check.due("51 steps: second term", more.pairJoins(1), false);
        Check.due("51 steps: unjoined", more.unjoinedPairs(), 2);
    }

    private static void joinFailures() {
        OverlapBench loop = Check.load("system;symbol a 0;symbol b 0;rule a=b;rule a=a;rule b=b");
        Check.due("loops: pairs", loop.criticalPairCount(), 2);
        Check.due("loops: unjoined, though both lead to b", loop.unjoinedPairs(), 2);
        OverlapBench grow = Check.load("system;symbol a 0;symbol f 1;symbol g 2;rule a=f(a);rule g(A,a)=A;rule g(A,B)=A");
        Check.due("growing: pairs", grow.criticalPairCount(), 3);
        pair(grow, 0, "1 0 2 A<>g(A,f(a))", false);
        pair(grow, 1, "1 2 0 A<>A", true);
        pair(grow, 2, "2 1 0 A<>A", true);
        Check.due("growing: unjoined", grow.unjoinedPairs(), 1);
    }

    private static void changedRules() {
        OverlapBench bench = Check.load(GROUP);
        bench.saveState(0);
        Check.due("unjoined at first", bench.unjoinedPairs(), 1);
        bench.swapRules(0, 2);
        pair(bench, 0, "2 0 1 m(i(A),m(A,B))<>m(e,B)", false);
        bench.removeRule(0);
        Check.due("without the inverse", bench.criticalPairCount(), 2);
        Check.due("all join", bench.unjoinedPairs(), 0);
        bench.reverseRule(1);
        Check.due("associative the other way", bench.criticalPairCount(), 4);
        pair(bench, 0, "0 1 0 m(A,B)<>m(m(e,A),B)", true);
        pair(bench, 1, "1 0 0 m(m(e,A),B)<>m(A,B)", true);
        pair(bench, 2, "1 0 2 m(m(A,e),B)<>m(A,B)", false);
        pair(bench, 3, "1 1 2 m(m(A,B),m(C,D))<>m(A,m(m(B,C),D))", true);
        bench.undo();
        Check.due("after undo", bench.criticalPairCount(), 2);
        bench.restoreState(0);
        Check.due("after restore", bench.unjoinedPairs(), 1);
        Check.due("changes nothing", bench.undoCount(), 0);
        Check.parse(bench, "system;symbol a 0;rule a=a;rule a=a");
        Check.due("after another system", bench.criticalPairCount(), 2);
    }

    private static void wrongIndices() {
        OverlapBench bench = Check.load(GROUP + ";term m(e,e);term e");
        for (int i : new int[] {-1, 3, 20, Integer.MIN_VALUE, Integer.MAX_VALUE}) {
            Check.throwsExactly("unify " + i, Check.OUT_OF_BOUNDS, () -> bench.unify(i, 0));
            Check.throwsExactly("unify 0 " + i, Check.OUT_OF_BOUNDS, () -> bench.unify(0, i));
            Check.throwsExactly("unifiedSize " + i, Check.OUT_OF_BOUNDS, () -> bench.unifiedSize(i, 0));
            Check.throwsExactly("unifiedSize 0 " + i, Check.OUT_OF_BOUNDS, () -> bench.unifiedSize(0, i));
            Check.throwsExactly("pairOuterRule " + i, Check.OUT_OF_BOUNDS, () -> bench.pairOuterRule(i));
            Check.throwsExactly("pairInnerRule " + i, Check.OUT_OF_BOUNDS, () -> bench.pairInnerRule(i));
            Check.throwsExactly("pairPosition " + i, Check.OUT_OF_BOUNDS, () -> bench.pairPosition(i));
            Check.throwsExactly("pairJoins " + i, Check.OUT_OF_BOUNDS, () -> bench.pairJoins(i));
        }
        Check.throwsExactly("no pairs", Check.OUT_OF_BOUNDS, () -> Check.load("system").pairJoins(0));
    }
}
