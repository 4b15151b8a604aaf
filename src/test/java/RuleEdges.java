import java.util.List;
import java.util.function.Consumer;

/** Section 2 (rules and matching) and what the promises 10 to 17, 27 and 28 answer at their edges. */
final class RuleEdges {
    private static final String SYMBOLS = TermEdges.SYMBOLS;

    private RuleEdges() {
    }

    static List<Consumer<Doc>> parts() {
        return List.of(
                RuleEdges::sixRules, RuleEdges::sides, RuleEdges::matching, RuleEdges::letters, RuleEdges::rewriting,
                RuleEdges::uses, RuleEdges::counts, RuleEdges::linear, RuleEdges::duplicating, RuleEdges::decreasing,
                RuleEdges::matches, RuleEdges::ruleAt);
    }

    private static void sixRules(Doc doc) {
        doc.edge("2", "at most 6 rules");
        OverlapBench bench = Check.load(SYMBOLS + "rule f(A)=a;rule f(A)=b;rule f(A)=A;rule f(a)=a;rule a=a;rule b=a");
        Check.due("6 rules", bench.ruleCount(), 6);
        Check.due("the first is 0", Check.rule(bench, 0), "f(A)=a");
        Check.due("the last is 5", Check.rule(bench, 5), "b=a");
        Check.throwsExactly("rule 6", Check.OUT_OF_BOUNDS, () -> bench.leftSize(6));
        Check.refused(5, SYMBOLS + Check.repeat("rule a=b;", 6) + "|rule a=b");
        doc.plain("2", "A rule has a left side and a right side");
    }

    private static void sides(Doc doc) {
        doc.edge("2", "The left side is not a variable");
        Check.taken(SYMBOLS + "rule a=b;rule f(H)=H;rule h(A,G,H)=h(H,G,A)", "a=b;f(H)=H;h(A,G,H)=h(H,G,A);");
        Check.refused(4, SYMBOLS + "rule |A=A");
        Check.refused(4, SYMBOLS + "rule |H=a");
        Check.refused(4, SYMBOLS + "rule a=|A");
        Check.refused(4, SYMBOLS + "rule f(A)=|H");
        Check.refused(4, SYMBOLS + "rule h(A,G,H)=h(H,G,|B)");
        Check.refused(4, SYMBOLS + "rule f(A)=A;flip |0");
        OverlapBench bench = Check.load(SYMBOLS + "rule f(A)=A;rule g(A,B)=f(B)");
        Check.throwsExactly("a variable as left side", Check.ILLEGAL_ARGUMENT, () -> bench.reverseRule(0));
        Check.throwsExactly("a variable of the right side alone", Check.ILLEGAL_ARGUMENT, () -> bench.reverseRule(1));
    }

    private static void matching(Doc doc) {
        doc.edge("2", "A rule matches at a position of a term if");
        OverlapBench bench = Check.load(SYMBOLS + "rule g(A,A)=a;rule h(f(A),B,A)=b;rule a=b;rule g(f(B),A)=a;"
                + "term g(f(a),f(a));term g(f(a),f(b));term h(f(g(a,b)),a,g(a,b));term h(f(a),a,f(a));term a;term A");
        Check.due("the same term twice", bench.matches(0, 0, 0), true);
        Check.due("other terms, the last node", bench.matches(0, 1, 0), false);
        Check.due("around another variable", bench.matches(1, 2, 0), true);
        Check.due("a greater term", bench.matches(1, 3, 0), false);
        Check.due("a rule without variables", bench.matches(2, 4, 0), true);
        Check.due("a rule without variables, deep", bench.matches(2, 2, 3), true);
        Check.due("not at a variable", bench.matches(2, 5, 0), false);
        Check.due("a part of the left side", bench.matches(3, 0, 1), false);
        Check.due("two variables, equal terms", bench.matches(3, 0, 0), true);
        OverlapBench open = Check.load(SYMBOLS + "rule g(A,A)=a;term g(g(A,a),g(A,a));term g(g(B,a),g(B,b));term g(g(a,H),g(a,H));"
                + "term g(h(B,a,C),h(B,a,C));term g(h(B,a,C),h(B,a,B));term g(A,B)");
        boolean[] same = {true, false, true, true, false, false};
        for (int i = 0; i < 6; i++) {
            Check.due("equal terms with variables " + i, open.matches(0, i, 0), same[i]);
        }
        OverlapBench nine = Check.load(SYMBOLS + "rule h(h(A,B,C),h(D,E,F),g(G,H))=h(H,G,A);"
                + "term h(h(f(A),a,B),h(C,D,f(f(b))),g(E,f(H)));term h(h(a,a,a),h(a,a,a),g(a,a));term h(h(a,a,a),h(a,a,a),f(a))");
        Check.due("8 variables", nine.matches(0, 0, 0), true);
        Check.due("8 equal terms", nine.matches(0, 1, 0), true);
        Check.due("not the last argument", nine.matches(0, 2, 0), false);
        nine.rewrite(0, 0, 0);
        Check.due("8 variables, rewritten", Check.term(nine, 0), "h(f(H),E,f(A))");
    }

    private static void letters(Doc doc) {
        doc.edge("2", "have nothing to do with the variables of the term");
        OverlapBench bench = Check.load(SYMBOLS + "rule g(A,f(B))=g(B,A);rule f(a)=a;term g(B,f(A));term g(B,A);term g(A,f(A));"
                + "term f(A);term A;term g(f(B),f(f(A)))");
        Check.due("crossed letters", bench.matches(0, 0, 0), true);
        Check.due("a variable is not f", bench.matches(0, 1, 0), false);
        Check.due("one letter for two variables", bench.matches(0, 2, 0), true);
        Check.due("a variable is not a", bench.matches(1, 3, 0), false);
        Check.due("nothing matches a variable", bench.ruleAt(4, 0), -1);
        bench.rewrite(0, 0, 0);
        Check.due("crossed letters, rewritten", Check.term(bench, 0), "g(A,B)");
        bench.rewrite(0, 2, 0);
        Check.due("one letter, rewritten", Check.term(bench, 2), "g(A,A)");
        bench.rewrite(0, 5, 0);
        Check.due("terms with letters, rewritten", Check.term(bench, 5), "g(f(A),f(B))");
    }

    private static void rewriting(Doc doc) {
        doc.edge("2", "To rewrite the term with the rule at this position means");
        OverlapBench bench = Check.load(SYMBOLS + "rule f(A)=h(A,b,A);rule f(A)=A;rule f(A)=a;term f(f(B));"
                + "term h(f(a),f(g(a,b)),f(b))");
        String[][] due = {{"h(f(B),b,f(B))", "f(h(B,b,B))"}, {"f(B)", "f(B)"}, {"a", "f(a)"}};
        for (int rule = 0; rule < 3; rule++) {
            for (int p = 0; p < 2; p++) {
                bench.rewrite(rule, 0, p);
                Check.due("rule " + rule + " at " + p, Check.term(bench, 0), due[rule][p]);
                bench.undo();
            }
        }
        bench.rewrite(0, 1, 1);
        Check.due("at the first argument", Check.term(bench, 1), "h(h(a,b,a),f(g(a,b)),f(b))");
        bench.undo();
        bench.rewrite(1, 1, 3);
        Check.due("at the middle argument", Check.term(bench, 1), "h(f(a),g(a,b),f(b))");
        bench.rewrite(2, 1, 6);
        Check.due("at the last argument", Check.term(bench, 1), "h(f(a),g(a,b),a)");
    }

    private static void uses(Doc doc) {
        doc.edge("P10", "in both sides of all rules that have a symbol");
        doc.plain("P10", "index of a symbol", "Returns the number of nodes.");
        OverlapBench bench = Check.load(SYMBOLS + "rule f(a)=h(a,a,a);rule h(f(A),A,f(a))=f(A);term b;term g(a,b)");
        int[] uses = {5, 0, 4, 0, 2};
        for (int i = 0; i < 5; i++) {
            Check.due("uses of symbol " + i, bench.symbolUses(i), uses[i]);
        }
        bench.removeRule(0);
        Check.due("without the first rule", bench.symbolUses(0), 1);
        bench.removeRule(0);
        Check.due("without rules", bench.symbolUses(0), 0);
        String full = "f(f(f(f(f(f(f(f(f(f(f(a)))))))))))";
        OverlapBench most = Check.load("system;symbol a 0;symbol f 1" + Check.repeat(";rule " + full + "=" + full, 6));
        Check.due("six rules of 24 nodes", most.symbolUses(1), 132);
        Check.due("the last nodes", most.symbolUses(0), 12);
    }

    private static void counts(Doc doc) {
        doc.plain("P11", "Returns the number of rules");
        doc.edge("P11", "Returns the number, 0 to 6");
        Check.due("no rules", Check.load("system;term A").ruleCount(), 0);
        OverlapBench six = Check.load(SYMBOLS + Check.repeat("rule a=b;", 5) + "rule b=a");
        Check.due("6 rules", six.ruleCount(), 6);
        for (int left = 5; left >= 0; left--) {
            six.removeRule(left);
            Check.due("rules left", six.ruleCount(), left);
        }
        OverlapBench bench = Check.load("system;symbol a 0;symbol f 1;symbol h 3;rule " + "f(f(f(f(f(f(f(f(f(f(f(A)))))))))))=A;"
                + "rule a=h(h(h(a,a,a),a,a),a,f(a));rule f(A)=a");
        doc.plain("P12", "Returns the number of nodes of the left side", "index of a rule");
        doc.edge("P12", "Returns the number of nodes.");
        Check.due("12 nodes left", bench.leftSize(0), 12);
        Check.due("1 node left", bench.leftSize(1), 1);
        Check.due("2 nodes left", bench.leftSize(2), 2);
        doc.plain("P13", "Returns the number of nodes of the right side", "index of a rule");
        doc.edge("P13", "Returns the number of nodes.");
        Check.due("1 node right", bench.rightSize(0), 1);
        Check.due("11 nodes right", bench.rightSize(1), 11);
        Check.due("1 constant right", bench.rightSize(2), 1);
        bench.reverseRule(1);
        Check.due("11 nodes left", bench.leftSize(1), 11);
        Check.due("1 node right after it", bench.rightSize(1), 1);
        OverlapBench twelve = Check.load(SYMBOLS + "rule a=f(f(f(f(f(f(f(f(f(f(f(a)))))))))))");
        Check.due("12 nodes right", twelve.rightSize(0), 12);
    }

    private static void linear(Doc doc) {
        doc.plain("P14", "Tells whether no variable", "index of a rule");
        doc.edge("P14", "true if no variable occurs more than once");
        OverlapBench bench = Check.load(SYMBOLS + "rule a=b;rule f(A)=g(A,A);rule g(A,A)=a;rule h(H,f(G),f(H))=a;"
                + "rule h(h(A,B,C),h(D,E,F),g(G,H))=a;rule h(h(A,B,C),h(D,E,F),g(G,G))=a");
        boolean[] due = {true, true, false, false, true, false};
        for (int i = 0; i < 6; i++) {
            Check.due("linear " + i, bench.isLeftLinear(i), due[i]);
        }
        doc.plain("P15", "Tells whether the right side of a rule is a variable", "index of a rule");
        doc.edge("P15", "true if it is a variable");
        OverlapBench right = Check.load(SYMBOLS + "rule f(A)=A;rule f(H)=H;rule f(A)=a;rule f(A)=f(A);rule h(A,B,H)=B");
        boolean[] collapsing = {true, true, false, false, true};
        for (int i = 0; i < 5; i++) {
            Check.due("collapsing " + i, right.isCollapsing(i), collapsing[i]);
        }
    }

    private static void duplicating(Doc doc) {
        doc.plain("P16", "Tells whether some variable occurs more often", "index of a rule");
        doc.edge("P16", "true if there is such a variable");
        OverlapBench bench = Check.load(SYMBOLS + "rule a=b;rule f(A)=f(A);rule f(A)=g(A,A);rule g(A,A)=g(A,A);"
                + "rule g(H,H)=h(H,H,H);rule h(A,B,H)=g(H,H)");
        boolean[] due = {false, false, true, false, true, true};
        for (int i = 0; i < 6; i++) {
            Check.due("duplicating " + i, bench.isDuplicating(i), due[i]);
        }
    }

    private static void decreasing(Doc doc) {
        doc.plain("P17", "Tells whether each step with a rule makes", "index of a rule");
        doc.edge("P17", "fewer nodes than the left side and the rule is not duplicating");
        OverlapBench bench = Check.load(SYMBOLS + "rule f(f(A))=g(A,A);rule f(f(f(A)))=g(A,A);rule f(f(A))=f(A);"
                + "rule f(f(A))=f(f(A));rule a=b;rule f(A)=f(f(A))");
        boolean[] due = {false, false, true, false, false, false};
        for (int i = 0; i < 6; i++) {
            Check.due("decreasing " + i, bench.decreasesSize(i), due[i]);
        }
        OverlapBench one = Check.load(SYMBOLS + "rule f(A)=A;rule f(a)=a;rule g(A,A)=A;rule h(A,A,B)=g(A,A)");
        for (int i = 0; i < 4; i++) {
            Check.due("smaller " + i, one.decreasesSize(i), true);
        }
    }

    private static void matches(Doc doc) {
        doc.plain("P27", "Tells whether a rule matches", "index of a rule", "index of a term", "position in the term");
        doc.edge("P27", "true if it matches");
        OverlapBench bench = Check.load(SYMBOLS + "rule f(A)=b;rule f(f(a))=b;rule f(A)=a;term f(f(a));term f(b);term a");
        boolean[][] due = {{true, true, false}, {true, false, false}, {true, true, false}};
        for (int rule = 0; rule < 3; rule++) {
            for (int p = 0; p < 3; p++) {
                Check.due("rule " + rule + " at " + p, bench.matches(rule, 0, p), due[rule][p]);
            }
        }
        Check.due("the first node of the next term", bench.matches(0, 1, 0), true);
        Check.due("a left side longer than the term", bench.matches(1, 1, 0), false);
        Check.due("a term of one node", bench.matches(0, 2, 0), false);
        OverlapBench eighty = TermEdges.longChain("rule f(A)=a;rule f(f(A))=a;rule a=b;", 80);
        Check.due("the last f of 80 nodes", eighty.matches(0, 0, 78), true);
        Check.due("not with two f", eighty.matches(1, 0, 78), false);
        Check.due("the last but one", eighty.matches(1, 0, 77), true);
        Check.due("the last node", eighty.matches(2, 0, 79), true);
    }

    private static void ruleAt(Doc doc) {
        doc.plain("P28", "Returns the first rule that matches", "index of a term", "position in the term");
        doc.edge("P28", "Returns index of the rule");
        OverlapBench bench = Check.load(SYMBOLS + "rule f(b)=a;rule f(A)=a;rule f(f(A))=a;rule f(a)=b;rule g(A,B)=a;rule b=b;"
                + "term f(f(b));term g(a,b);term a;term A");
        Check.due("the first of two", bench.ruleAt(0, 0), 1);
        Check.due("rule 0", bench.ruleAt(0, 1), 0);
        Check.due("rule 5", bench.ruleAt(0, 2), 5);
        Check.due("rule 4", bench.ruleAt(1, 0), 4);
        doc.edge("P28", "NONE if no rule matches");
        Check.due("none at a", bench.ruleAt(1, 1), -1);
        Check.due("none at a alone", bench.ruleAt(2, 0), -1);
        Check.due("none at a variable", bench.ruleAt(3, 0), -1);
        Check.due("none without rules", Check.load(SYMBOLS + "term f(a)").ruleAt(0, 0), -1);
        bench.removeRule(0);
        Check.due("the next rule", bench.ruleAt(0, 1), 0);
    }
}
