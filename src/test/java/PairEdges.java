import java.util.List;
import java.util.function.Consumer;

/** Section 4 (critical pairs) and what the promises 38 to 45 answer at their edges. */
final class PairEdges {
    private static final String SYMBOLS = TermEdges.SYMBOLS;

    private PairEdges() {
    }

    static List<Consumer<Doc>> parts() {
        return List.of(
                PairEdges::unifiers, PairEdges::overlaps, PairEdges::ownRoot, PairEdges::renaming, PairEdges::theTerms,
                PairEdges::numbering, PairEdges::leftOut, PairEdges::firstTwenty, PairEdges::equalTerms,
                PairEdges::names, PairEdges::joinLimit, PairEdges::joinSize, PairEdges::unifyAnswers,
                PairEdges::unifiedSizes, PairEdges::pairAnswers, PairEdges::joinAnswers);
    }

    private static OverlapBench two(String first, String second) {
        return Check.load(SYMBOLS + "term " + first + ";term " + second);
    }

    private static void unifies(String first, String second, int size) {
        OverlapBench bench = two(first, second);
        Check.due(first + " and " + second, bench.unify(0, 1), size > 0);
        Check.due(second + " and " + first, bench.unify(1, 0), size > 0);
        Check.due("size of " + first + " and " + second, bench.unifiedSize(0, 1), size > 0 ? size : -1);
        Check.due("size of " + second + " and " + first, bench.unifiedSize(1, 0), size > 0 ? size : -1);
    }

    private static void unifiers(Doc doc) {
        doc.edge("4", "A unifier of two terms replaces variables");
        unifies("a", "a", 1);
        unifies("a", "b", 0);
        unifies("A", "H", 1);
        unifies("h(A,B,A)", "h(f(C),C,f(a))", 6);
        unifies("h(A,B,A)", "h(f(C),b,f(a))", 6);
        unifies("h(A,A,A)", "h(f(C),B,f(a))", 7);
        unifies("h(A,A,b)", "h(a,B,B)", 0);
        unifies("h(a,b,A)", "h(H,H,H)", 0);
        unifies("g(a,b)", "g(G,G)", 0);
        unifies("g(G,H)", "g(H,H)", 3);
        doc.edge("4", "replaces no more than necessary");
        unifies("g(A,B)", "g(C,D)", 3);
        unifies("g(A,f(B))", "g(f(C),D)", 5);
        unifies("g(A,A)", "g(f(C),f(D))", 5);
        doc.edge("4", "replaced by a term that contains the variable itself");
        unifies("g(A,A)", "g(B,f(B))", 0);
        unifies("g(A,f(A))", "g(B,B)", 0);
        unifies("g(A,A)", "g(B,g(a,B))", 0);
        unifies("g(A,A)", "g(B,g(B,a))", 0);
        unifies("g(A,A)", "g(B,h(a,B,b))", 0);
        unifies("g(A,A)", "g(H,h(a,b,f(H)))", 0);
        unifies("g(A,A)", "g(B,h(a,b,f(H)))", 11);
        unifies("h(A,B,A)", "h(C,f(C),B)", 5);
        unifies("h(A,B,g(A,B))", "h(f(C),f(D),g(D,C))", 0);
        unifies("g(A,B)", "g(f(B),f(A))", 5);
        OverlapBench cycle = Check.load(SYMBOLS + "rule g(A,f(A))=a;rule g(B,B)=b");
        Check.due("no pair where there is no unifier", cycle.criticalPairCount(), 0);
        OverlapBench none = Check.load(SYMBOLS + "rule g(A,f(B))=a;rule g(B,B)=b");
        Check.due("but with two variables", none.criticalPairCount(), 2);
    }

    /** Outer rule, inner rule, position and text of a pair. */
    private static String pair(OverlapBench bench, int pair) {
        return bench.pairOuterRule(pair) + " " + bench.pairInnerRule(pair) + " " + bench.pairPosition(pair) + " "
                + Check.pair(bench, pair);
    }

    private static void pairs(String rules, String... due) {
        OverlapBench bench = Check.load(SYMBOLS + rules);
        Check.due("pairs of " + rules, bench.criticalPairCount(), due.length);
        for (int i = 0; i < due.length; i++) {
            Check.due("pair " + i + " of " + rules, pair(bench, i), due[i]);
        }
        Check.throwsExactly("behind the pairs", Check.OUT_OF_BOUNDS, () -> bench.pairPosition(due.length));
    }

    private static void overlaps(Doc doc) {
        doc.edge("4", "Let i and j be rules, which may be the same rule");
        pairs("rule f(f(A))=a", "0 0 1 a<>f(a)");
        pairs("rule f(A)=a");
        pairs("rule g(A,f(B))=a;rule f(f(b))=b", "0 1 2 a<>g(A,b)");
        pairs("rule h(A,B,C)=A;rule a=b");
        pairs("rule h(A,B,a)=a;rule a=b", "0 1 3 a<>h(A,B,b)");
        Check.due("no rules", Check.load("system").criticalPairCount(), 0);
        doc.edge("4", "p is not 0 if i and j are the same rule");
        pairs("rule a=b");
        pairs("rule f(a)=b;rule f(a)=b", "0 1 0 b<>b", "1 0 0 b<>b");
        pairs("rule f(f(f(A)))=A", "0 0 1 f(A)<>f(A)", "0 0 2 f(f(A))<>f(f(A))");
    }

    private static void ownRoot(Doc doc) {
        doc.edge("4", "Rule i is the outer rule and rule j is the inner rule");
        OverlapBench bench = Check.load(SYMBOLS + "rule b=a;rule a=b;rule f(b)=a");
        Check.due("one pair", bench.criticalPairCount(), 1);
        Check.due("outer", bench.pairOuterRule(0), 2);
        Check.due("inner", bench.pairInnerRule(0), 0);
        Check.due("position", bench.pairPosition(0), 1);
    }

    private static void renaming(Doc doc) {
        doc.edge("4", "The variables of rule j are renamed");
        pairs("rule g(A,f(A))=A;rule f(g(A,B))=A", "0 1 2 g(A,B)<>g(g(A,B),A)", "1 0 1 A<>f(A)");
        pairs("rule f(f(A))=A", "0 0 1 f(A)<>f(A)");
        pairs("rule g(f(H),H)=H;rule f(H)=g(H,H)", "0 1 1 A<>g(g(A,A),A)");
    }

    private static void theTerms(Doc doc) {
        doc.edge("4", "is the first term of a critical pair");
        pairs("rule h(f(A),B,A)=g(A,B);rule f(g(A,f(B)))=h(A,B,b)",
                "0 1 1 g(g(A,f(B)),C)<>h(h(A,B,b),C,g(A,f(B)))", "1 1 3 h(A,g(B,f(C)),b)<>f(g(A,h(B,C,b)))");
        pairs("rule g(a,f(A))=A;rule f(b)=a;rule a=b", "0 1 2 b<>g(a,a)", "0 2 1 A<>g(b,f(A))");
    }

    private static void numbering(Doc doc) {
        String rules = "rule g(f(A),f(B))=A;rule f(A)=a;rule g(f(a),B)=b";
        String[] due = {"0 1 1 A<>g(a,f(B))", "0 1 3 A<>g(f(A),a)", "0 2 0 a<>b", "2 0 0 b<>a", "2 1 1 b<>g(a,A)"};
        doc.edge("4", "Critical pairs are numbered from 0 by ascending i");
        pairs(rules, due[0], due[1], due[2], due[3], due[4]);
        doc.edge("4", "for the same i by ascending j");
        pairs("rule f(f(a))=b;rule f(A)=a;rule a=b", "0 1 0 b<>a", "0 1 1 b<>f(a)", "0 2 2 b<>f(f(b))", "1 0 0 a<>b");
        doc.edge("4", "for the same i and j by ascending p");
        pairs("rule h(f(a),f(f(b)),f(A))=A;rule f(A)=A", "0 1 1 A<>h(a,f(f(b)),f(A))", "0 1 3 A<>h(f(a),f(b),f(A))",
                "0 1 4 A<>h(f(a),f(b),f(A))", "0 1 6 A<>h(f(a),f(f(b)),A)");
    }

    /**
     * Two rules whose overlap replaces A by 58 nodes and B by 6, so that the pair has a term of so many nodes, 78 or more,
     * and one of 19: as the first and the second term of pair 0, and the other way in pair 1.
     */
    static String sized(int nodes) {
        return "system;symbol a 0;symbol f 1;symbol g 2;symbol h 3;symbol t 3;rule t(A,h(B,B,B),B)=g(A,"
                + Check.repeat("f(", nodes - 78) + "h(B,B,B)" + Check.repeat(")", nodes - 78)
                + ");rule t(h(A,A,A),A,h(B,f(B),f(B)))=A";
    }

    private static void leftOut(Doc doc) {
        doc.edge("4", "A pair is left out, and is not counted, if");
        Check.due("79 nodes", Check.load(sized(79)).criticalPairCount(), 2);
        OverlapBench eighty = Check.load(sized(80));
        Check.due("80 nodes", eighty.criticalPairCount(), 2);
        String six = "h(A,f(A),f(A))";
        String nineteen = "h(" + six + "," + six + "," + six + ")";
        String first = "g(h(" + nineteen + "," + nineteen + "," + nineteen + "),f(f(" + nineteen + ")))";
        Check.due("80 nodes and 19", pair(eighty, 0), "0 1 0 " + first + "<>" + nineteen);
        Check.due("19 nodes and 80", eighty.writePair(1), (first + "<>" + nineteen).length());
        OverlapBench large = Check.load(sized(81));
        Check.due("81 nodes", large.criticalPairCount(), 0);
        Check.due("81 nodes, unjoined", large.unjoinedPairs(), 0);
        OverlapBench mixed = Check.load(withUnary(81) + ";rule k(A)=A;rule k(A)=a");
        Check.due("the others", mixed.criticalPairCount(), 2);
        Check.due("take the number 0", pair(mixed, 0), "2 3 0 A<>a");
        Check.due("and the number 1", pair(mixed, 1), "3 2 0 a<>A");
    }

    private static String withUnary(int nodes) {
        return sized(nodes).replace("symbol t 3", "symbol t 3;symbol k 1");
    }

    private static void firstTwenty(Doc doc) {
        doc.edge("4", "only the first 20 are kept");
        String rules = ";rule k(k(k(A)))=A";
        OverlapBench bench = Check.load(withUnary(81) + Check.repeat(rules, 3));
        Check.due("24 pairs, and two left out before them", bench.criticalPairCount(), 20);
        Check.due("the first", pair(bench, 0), "2 2 1 k(A)<>k(A)");
        Check.due("the last but one", pair(bench, 18), "4 2 2 k(k(A))<>k(k(A))");
        Check.due("the last", pair(bench, 19), "4 3 0 A<>A");
        Check.throwsExactly("pair 20", Check.OUT_OF_BOUNDS, () -> bench.pairOuterRule(20));
        bench.removeRule(4);
        Check.due("10 pairs", bench.criticalPairCount(), 10);
        OverlapBench twenty = Check.load(SYMBOLS + Check.repeat("rule f(A)=A;", 4) + "rule f(A)=A");
        Check.due("20 pairs", twenty.criticalPairCount(), 20);
        Check.due("the last of 20", pair(twenty, 19), "4 3 0 A<>A");
        OverlapBench more = Check.load(SYMBOLS + Check.repeat("rule f(A)=A;", 4) + "rule f(A)=A;rule f(f(f(a)))=a");
        Check.due("the last of more", pair(more, 19), "3 5 0 f(f(a))<>a");
    }

    private static void equalTerms(Doc doc) {
        doc.edge("4", "Pairs of equal terms are pairs, too");
        pairs("rule f(A)=A;rule f(B)=B", "0 1 0 A<>A", "1 0 0 A<>A");
        pairs("rule f(f(A))=f(A)", "0 0 1 f(f(A))<>f(f(A))");
        pairs("rule f(a)=b;rule a=a", "0 1 1 b<>f(a)");
    }

    private static void names(Doc doc) {
        doc.edge("4", "The variables of a pair are named A, B, C and so on");
        String symbols = "system;symbol a 0;symbol g 2;symbol h 3;symbol k 3;symbol m 3;rule m(h(A,B,C),h(D,E,F),g(G,H))=";
        String inner = ";rule g(k(A,B,C),k(D,E,k(F,G,H)))=g(k(H,G,F),k(E,D,k(C,B,A)))";
        OverlapBench second = Check.load(symbols + "a" + inner);
        Check.due("one pair", second.criticalPairCount(), 1);
        Check.due("in the order of the second term", pair(second, 0),
                "0 1 9 a<>m(h(A,B,C),h(D,E,F),g(k(G,H,I),k(J,K,k(L,M,N))))");
        OverlapBench first = Check.load(symbols + "g(G,A)" + inner);
        Check.due("in the order of the first term, then the second", pair(first, 0),
                "0 1 9 g(k(A,B,C),D)<>m(h(D,E,F),h(G,H,I),g(k(J,K,L),k(M,N,k(C,B,A))))");
        String ends = ";rule g(k(A,B,C),k(D,E,k(F,G,H)))=k(k(A,B,C),k(D,E,F),g(G,H))";
        OverlapBench joins = Check.load(symbols + "a" + ends + ";rule m(A,B,C)=a");
        Check.due("variables beyond H match", joins.pairJoins(0), true);
        pairs("rule g(H,f(G))=f(H);rule f(a)=b", "0 1 2 f(A)<>g(A,b)");
    }

    /** Two rules for w: pair 0 has the right sides in their order, pair 1 the other way. */
    private static OverlapBench counting(int again, String one, String two) {
        return Check.load("system;symbol z 0;symbol s 1;symbol c 2;symbol w 0;rule c(A,s(B))=c(A,B);rule c(s(A),z)=c(A,"
                + number(again) + ");rule c(z,z)=z;rule w=" + one + ";rule w=" + two);
    }

    private static String number(int n) {
        return Check.repeat("s(", n) + "z" + Check.repeat(")", n);
    }

    private static void joined(OverlapBench bench, boolean joins) {
        Check.due("pairs", bench.criticalPairCount(), 2);
        Check.due("pair 0", bench.pairJoins(0), joins);
        Check.due("pair 1", bench.pairJoins(1), joins);
    }

    private static void joinLimit(Doc doc) {
        doc.edge("4", "at most 50 innermost steps lead from both terms");
        // With again = 8 the count takes 4 + 5 * 9 + 1 steps, with again = 9 it takes 5 * 10 + 1.
        String fifty = "c(" + number(5) + "," + number(4) + ")";
        String more = "c(" + number(5) + ",z)";
        joined(counting(8, fifty, "z"), true);
        joined(counting(8, fifty, fifty), true);
        joined(counting(8, fifty, more), true);
        joined(counting(8, fifty, "s(z)"), false);
        joined(counting(9, more, "z"), false);
        joined(counting(9, more, more), false);
        OverlapBench outer = Check.load(SYMBOLS + "rule f(A)=b;rule a=a;rule h(A,B,C)=f(a);rule h(A,B,C)=b");
        Check.due("only outermost steps would end", outer.pairJoins(0), false);
    }

    private static void joinSize(Doc doc) {
        doc.edge("4", "where a reduction with a step that is too large fails");
        // d doubles and t triples: d(d(t(u(d(u(z)))))) becomes a term of 79 nodes, and v leads to z from there.
        String rules = "system;symbol z 0;symbol u 1;symbol d 1;symbol t 1;symbol v 1;symbol g 2;symbol h 3;symbol w 0;"
                + "rule d(A)=g(A,A);rule t(A)=h(A,A,A);rule v(A)=z;rule w=z;rule w=";
        String grown = "d(d(t(u(d(u(z))))))";
        joined(Check.load(rules + "v(" + grown + ")"), true);
        joined(Check.load(rules + "v(v(" + grown + "))"), false);
    }

    private static void unifyAnswers(Doc doc) {
        doc.plain("P38", "Tells whether two terms can be unified", "`term`: index", "`other`: index");
        doc.edge("P38", "The variables of the second term are renamed first");
        OverlapBench bench = Check.load(SYMBOLS + "term A;term f(A);term g(A,f(A));term g(f(A),A);term g(A,B)");
        for (int i = 0; i < 5; i++) {
            Check.due("term " + i + " and itself", bench.unify(i, i), true);
        }
        Check.due("A and f(A)", bench.unify(0, 1), true);
        Check.due("f(A) and A", bench.unify(1, 0), true);
        Check.due("the letters are not the same", bench.unify(4, 3), true);
        for (char one = 'A'; one <= 'H'; one++) {
            OverlapBench letters = two("g(" + one + ",b)", "h(g(a,A),g(a,B),g(a,C))");
            OverlapBench others = two("g(" + one + ",b)", "h(g(a,D),g(a,E),g(a,F))");
            OverlapBench last = two("g(" + one + ",b)", "h(g(a,G),g(a,H),g(a,A))");
            for (int p = 1; p < 9; p += 3) {
                Check.due(one + " and a letter at " + p, part(letters, p), true);
                Check.due(one + " and another letter at " + p, part(others, p), true);
                Check.due(one + " and a last letter at " + p, part(last, p), true);
            }
        }
        doc.edge("P38", "true if they have a unifier");
        Check.due("a cycle", bench.unify(2, 3), false);
        Check.due("a cycle back", bench.unify(3, 2), false);
        Check.due("other symbols", bench.unify(1, 2), false);
        Check.due("a variable and all", bench.unify(0, 2), true);
        OverlapBench eighty = TermEdges.longChain("", 80);
        eighty.copySubterm(0, 0);
        eighty.copySubterm(0, 1);
        Check.due("80 nodes twice", eighty.unify(0, 1), true);
        Check.due("80 nodes and 79", eighty.unify(0, 2), false);
    }

    /** Whether term 0 unifies with a subterm of term 1. */
    private static boolean part(OverlapBench bench, int position) {
        int copy = bench.copySubterm(1, position);
        boolean unifies = bench.unify(0, copy);
        bench.removeTerm(copy);
        return unifies;
    }

    private static void unifiedSizes(Doc doc) {
        doc.plain("P39", "Returns the number of nodes of the term to which", "`term`: index", "`other`: index",
                "Returns the number of nodes;");
        doc.edge("P39", "NONE if they have no unifier, or the number is greater than 80");
        String big = "h(" + TermEdges.chain(37, "D") + ",B,C)";
        unifies("h(A,A," + TermEdges.chain(4, "a") + ")", big, 79);
        unifies("h(A,A," + TermEdges.chain(5, "a") + ")", big, 80);
        OverlapBench more = two("h(A,A," + TermEdges.chain(6, "a") + ")", big);
        Check.due("81 nodes", more.unifiedSize(0, 1), -1);
        Check.due("81 nodes back", more.unifiedSize(1, 0), -1);
        Check.due("though they unify", more.unify(0, 1), true);
        unifies("A", "B", 1);
        unifies("A", "a", 1);
        unifies("b", "a", 0);
        unifies("g(A,A)", "g(B,f(B))", 0);
        OverlapBench eighty = TermEdges.longChain("", 80);
        eighty.copySubterm(0, 0);
        eighty.copySubterm(0, 1);
        Check.due("80 nodes twice", eighty.unifiedSize(0, 1), 80);
        Check.due("80 nodes and 79", eighty.unifiedSize(0, 2), -1);
        OverlapBench triples = two("g(A,g(B,g(C,D)))",
                "g(h(A,A,A),g(h(h(a,a,a),h(a,a,a),h(a,a,a)),g(h(h(a,a,a),h(a,a,a),b),h(a,b,f(a)))))");
        Check.due("different arguments", triples.unifiedSize(0, 1), 3 + 4 + 13 + 10 + 5);
    }

    private static void pairAnswers(Doc doc) {
        doc.plain("P40", "Returns the number of critical pairs");
        doc.edge("P40", "Returns the number, 0 to 20");
        Check.due("no rules", Check.load("system").criticalPairCount(), 0);
        Check.due("no overlaps", Check.load(SYMBOLS + "rule a=b;rule f(b)=b").criticalPairCount(), 0);
        Check.due("one", Check.load(SYMBOLS + "rule a=b;rule f(a)=b").criticalPairCount(), 1);
        OverlapBench kept = Check.load(SYMBOLS + "rule f(a)=b;rule a=b");
        Check.due("one at first", kept.criticalPairCount(), 1);
        kept.saveState(0);
        kept.removeRule(1);
        Check.due("none after a change", kept.criticalPairCount(), 0);
        kept.restoreState(0);
        Check.due("one after restoring", kept.criticalPairCount(), 1);
        kept.removeRule(0);
        Check.due("none after a change", kept.criticalPairCount(), 0);
        kept.undo();
        Check.due("one after undoing", kept.criticalPairCount(), 1);
        Check.parse(kept, "system;symbol a 0;rule a=a;rule a=a");
        Check.due("two of another system", kept.criticalPairCount(), 2);
        Check.due("30, of which 20", Check.load(SYMBOLS + Check.repeat("rule a=b;", 5) + "rule a=b").criticalPairCount(), 20);
        OverlapBench bench = Check.load(SYMBOLS + "rule a=b;rule f(f(f(f(f(f(f(f(f(f(f(a)))))))))))=b;rule g(A,B)=b;"
                + "rule h(A,B,C)=b;rule f(b)=a;rule g(f(b),f(b))=a");
        String[] due = {"1 0 11", "2 5 0", "5 2 0", "5 4 1", "5 4 3"};
        doc.plain("P41", "Returns the rule whose left side is rewritten", "index of a critical pair");
        doc.edge("P41", "Returns index of the rule");
        Check.due("pairs", bench.criticalPairCount(), due.length);
        for (int i = 0; i < due.length; i++) {
            Check.due("outer " + i, bench.pairOuterRule(i), due[i].charAt(0) - '0');
        }
        doc.plain("P42", "Returns the rule that rewrites the subterm", "index of a critical pair");
        doc.edge("P42", "Returns index of the rule");
        for (int i = 0; i < due.length; i++) {
            Check.due("inner " + i, bench.pairInnerRule(i), due[i].charAt(2) - '0');
        }
        doc.plain("P43", "Returns the position of the subterm", "index of a critical pair");
        doc.edge("P43", "Returns the position.");
        for (int i = 0; i < due.length; i++) {
            Check.due("position " + i, bench.pairPosition(i), Integer.parseInt(due[i].substring(4)));
        }
        bench.swapRules(0, 1);
        Check.due("the outer rule is 0", bench.pairOuterRule(0), 0);
        Check.due("the inner rule is 1", bench.pairInnerRule(0), 1);
    }

    private static void joinAnswers(Doc doc) {
        doc.plain("P44", "Tells whether a critical pair is joinable", "index of a critical pair");
        doc.edge("P44", "true if it is joinable");
        OverlapBench bench = Check.load(SYMBOLS + "rule a=b;rule a=f(b);rule f(a)=b;rule f(f(A))=b;rule f(b)=b");
        // a: b and f(b), which steps to b; f(a): b and f(b), b and f(f(b)), b and b
        for (int i = 0; i < bench.criticalPairCount(); i++) {
            Check.due("pair " + i + " with f(b)=b", bench.pairJoins(i), true);
        }
        bench.removeRule(4);
        Check.due("pair 0 without it", bench.pairJoins(0), false);
        bench.undo();
        Check.due("pair 0 with it again", bench.pairJoins(0), true);
        doc.plain("P45", "Returns the number of critical pairs that are not joinable");
        doc.edge("P45", "Returns the number of pairs.");
        Check.due("no pairs", Check.load("system").unjoinedPairs(), 0);
        Check.due("all join", Check.load(SYMBOLS + "rule a=b;rule a=b;rule f(a)=f(b)").unjoinedPairs(), 0);
        Check.due("two of two", Check.load(SYMBOLS + "rule a=b;rule a=f(b)").unjoinedPairs(), 2);
        OverlapBench twenty = Check.load(SYMBOLS + "rule a=b;rule a=f(b);rule a=g(b,b);rule a=h(b,b,b);rule a=f(f(b));"
                + "rule a=g(b,f(b))");
        Check.due("20 of 20", twenty.unjoinedPairs(), 20);
        Check.due("of 20", twenty.criticalPairCount(), 20);
        OverlapBench some = Check.load(SYMBOLS + "rule a=b;rule a=b;rule a=f(b)");
        Check.due("four of six", some.unjoinedPairs(), 4);
    }
}
