import java.util.List;
import java.util.function.Consumer;

/** Section 1 (terms) and what the promises 7 to 9 and 18 to 26 answer at their edges. */
final class TermEdges {
    static final String SYMBOLS = "system;symbol a 0;symbol b 0;symbol f 1;symbol g 2;symbol h 3;";
    static final String EIGHT = "system;symbol a 0;symbol b 1;symbol c 2;symbol d 3;symbol e 0;symbol f 1;symbol g 2;symbol h "
            + "3";

    private TermEdges() {
    }

    static List<Consumer<Doc>> parts() {
        return List.of(
                TermEdges::symbols, TermEdges::names, TermEdges::variables, TermEdges::arguments, TermEdges::positions,
                TermEdges::depths, TermEdges::sixTerms, TermEdges::symbolAnswers, TermEdges::termAnswers,
                TermEdges::nodeAnswers, TermEdges::termQuestions, TermEdges::averages);
    }

    /** A chain of f with so many nodes, the last one as given. */
    static String chain(int nodes, String last) {
        return Check.repeat("f(", nodes - 1) + last + Check.repeat(")", nodes - 1);
    }

    /** A system whose only term is a chain of f over a with so many nodes, 40 or more; none of it can be undone. */
    static OverlapBench longChain(String rules, int nodes) {
        OverlapBench bench = Check.load(SYMBOLS + rules + "term " + chain(40, "a") + ";term f(a)");
        int size = 40;
        if (nodes >= 79) {
            size = bench.replaceSubterm(0, 39, 0);
        }
        while (size < nodes) {
            size = bench.replaceSubterm(0, size - 1, 1);
        }
        Check.due("the chain", bench.termSize(0), nodes);
        bench.removeTerm(1);
        bench.saveState(1);
        bench.restoreState(1);
        return bench;
    }

    private static void symbols(Doc doc) {
        doc.edge("1", "at most 8 symbols");
        OverlapBench eight = Check.load(EIGHT + ";term h(a,b(a),g(A,c(a,e)))");
        Check.due("8 symbols", eight.symbolCount(), 8);
        Check.due("the first is 0", eight.symbolAt(0, 1), 0);
        Check.due("the last is 7", eight.symbolAt(0, 0), 7);
        Check.due("arity of symbol 7", eight.symbolArity(7), 3);
        Check.throwsExactly("symbol 8", Check.OUT_OF_BOUNDS, () -> eight.symbolArity(8));
        Check.refused(5, EIGHT + ";|symbol i 0");
    }

    private static void names(Doc doc) {
        doc.edge("1", "a name of 1 to 6 letters a to z and an arity from 0 to 3");
        Check.taken("system;symbol z 0;symbol azazaz 3;term azazaz(z,z,z)", "azazaz(z,z,z);");
        Check.taken("system;symbol azazaz 0;symbol a 3;term a(azazaz,A,A)", "a(azazaz,A,A);");
        Check.refused(1, "system;symbol |0");
        Check.refused(1, "system;symbol |azazaza 0");
        Check.refused(1, "system;symbol |{ 0");
        Check.refused(1, "system;symbol |` 0");
        Check.refused(1, "system;symbol |A 0");
        Check.refused(1, "system;symbol az|A 0");
        Check.refused(2, "system;symbol z |4");
        doc.edge("1", "No two symbols have the same name");
        Check.refused(3, "system;symbol azazaz 0;symbol |azazaz 1");
        Check.refused(3, "system;symbol a 0;symbol |a 0");
        Check.taken("system;symbol azazaz 0;symbol azaza 0;symbol azazay 0;symbol zzazaz 0;term azaza;term azazay",
                "azaza;azazay;");
    }

    private static void variables(Doc doc) {
        doc.edge("1", "The variables are the letters A to H");
        OverlapBench bench = Check.load(SYMBOLS + "term A;term B;term G;term H");
        int[] numbers = {0, 1, 6, 7};
        for (int i = 0; i < 4; i++) {
            Check.due("number of variable " + i, bench.variableAt(i, 0), numbers[i]);
        }
        Check.refused(1, SYMBOLS + "term |I");
        Check.refused(1, SYMBOLS + "term |@");
        Check.refused(1, SYMBOLS + "term |Z");
    }

    private static void arguments(Doc doc) {
        doc.edge("1", "with as many arguments as its arity");
        Check.taken(SYMBOLS + "term a;term f(A);term g(A,a);term h(a,A,B)", "a;f(A);g(A,a);h(a,A,B);");
        Check.refused(1, SYMBOLS + "term a|(A)");
        Check.refused(1, SYMBOLS + "term f|");
        Check.refused(1, SYMBOLS + "term f(A|,A)");
        Check.refused(1, SYMBOLS + "term g(A|)");
        Check.refused(1, SYMBOLS + "term g(A,A|,A)");
        Check.refused(1, SYMBOLS + "term h(A,A|)");
        Check.refused(1, SYMBOLS + "term h(A,A,A|,A)");
    }

    private static void positions(Doc doc) {
        doc.edge("1", "are numbered from 0 in preorder");
        // 0 h, 1 g, 2 A, 3 f, 4 B, 5 a, 6 f, 7 C
        OverlapBench bench = Check.load(SYMBOLS + "term h(g(A,f(B)),a,f(C));term D");
        int[] symbols = {4, 3, -1, 2, -1, 0, 2, -1};
        int[] letters = {-1, -1, 0, -1, 1, -1, -1, 2};
        for (int p = 0; p < 8; p++) {
            Check.due("symbol at " + p, bench.symbolAt(0, p), symbols[p]);
            Check.due("variable at " + p, bench.variableAt(0, p), letters[p]);
        }
        doc.edge("1", "The position of a node is its number");
        Check.due("the position of a term of one node", bench.variableAt(1, 0), 3);
        Check.throwsExactly("behind one node", Check.OUT_OF_BOUNDS, () -> bench.variableAt(1, 1));
        Check.throwsExactly("behind the last node", Check.OUT_OF_BOUNDS, () -> bench.symbolAt(0, 8));
        Check.throwsExactly("before the first node", Check.OUT_OF_BOUNDS, () -> bench.symbolAt(0, -1));
        doc.edge("1", "The subterm at a position consists of");
        String[] parts = {"h(g(A,f(B)),a,f(C))", "g(A,f(B))", "A", "f(B)", "B", "a", "f(C)", "C"};
        for (int p = 0; p < 8; p++) {
            Check.due("a copy goes behind D", bench.copySubterm(0, p), 2);
            Check.due("subterm at " + p, Check.term(bench, 2), parts[p]);
            bench.removeTerm(2);
        }
    }

    private static void depths(Doc doc) {
        doc.edge("1", "The depth of a term is the greatest number");
        OverlapBench bench = Check.load(SYMBOLS + "term h(f(f(a)),A,f(a));term h(a,g(A,f(f(B))),f(A));term g(f(a),f(g(a,a)));"
                + "term h(a,a,f(f(f(f(a)))));term f(b);term H");
        int[] depths = {4, 5, 4, 6, 2, 1};
        for (int i = 0; i < 6; i++) {
            Check.due("depth " + i, bench.termDepth(i), depths[i]);
        }
        Check.due("the greatest depth", longChain("", 80).termDepth(0), 80);
    }

    private static void sixTerms(Doc doc) {
        doc.edge("1", "at most 6 terms");
        OverlapBench six = Check.load(SYMBOLS + "term A;term B;term C;term D;term E;term F");
        Check.due("6 terms", six.termCount(), 6);
        Check.due("the first is 0", six.variableAt(0, 0), 0);
        Check.due("the last is 5", six.variableAt(5, 0), 5);
        Check.throwsExactly("term 6", Check.OUT_OF_BOUNDS, () -> six.termSize(6));
        Check.throwsExactly("a copy more", Check.ILLEGAL_ARGUMENT, () -> six.copySubterm(0, 0));
        Check.due("still 6", six.termCount(), 6);
        Check.refused(5, SYMBOLS + Check.repeat("term A;", 6) + "|term A");
        Check.refused(5, SYMBOLS + Check.repeat("term A;", 6) + "|copy 0");
    }

    private static void symbolAnswers(Doc doc) {
        doc.plain("P7", "Returns the number of symbols");
        doc.edge("P7", "Returns the number, 0 to 8");
        Check.due("no symbols", Check.load("system;term A").symbolCount(), 0);
        Check.due("one symbol", Check.load("system;symbol a 0").symbolCount(), 1);
        Check.due("8 symbols", Check.load(EIGHT).symbolCount(), 8);
        doc.plain("P8", "Returns the arity of a symbol", "index of a symbol");
        doc.edge("P8", "Returns the arity, 0 to 3");
        OverlapBench arities = Check.load(EIGHT);
        for (int i = 0; i < 8; i++) {
            Check.due("arity " + i, arities.symbolArity(i), i % 4);
        }
        doc.plain("P9", "Returns a letter of the name", "index of a symbol", "index of the letter");
        doc.edge("P9", "Returns the letter as a byte");
        OverlapBench names = Check.load("system;symbol z 0;symbol abcxyz 0;symbol a 0");
        Check.due("z", names.symbolLetter(0, 0), 122);
        Check.due("a", names.symbolLetter(1, 0), 97);
        Check.due("the 6th letter", names.symbolLetter(1, 5), 122);
        Check.due("a again", names.symbolLetter(2, 0), 97);
        doc.edge("P9", "NONE if index is negative or not less than the length");
        for (int wrong : new int[] {-1, 6, 7, Integer.MIN_VALUE, Integer.MAX_VALUE}) {
            Check.due("letter " + wrong + " of 6", names.symbolLetter(1, wrong), -1);
            Check.due("letter " + wrong + " of 1", names.symbolLetter(0, wrong), -1);
        }
        Check.due("letter 1 of 1, before another name", names.symbolLetter(0, 1), -1);
        Check.due("letter 1 of 1, the last name", names.symbolLetter(2, 1), -1);
    }

    private static void termAnswers(Doc doc) {
        doc.plain("P18", "Returns the number of terms");
        doc.edge("P18", "Returns the number, 0 to 6");
        Check.due("no terms", Check.load("system;symbol a 0;rule a=a").termCount(), 0);
        Check.due("one term", Check.load("system;term A").termCount(), 1);
        OverlapBench six = Check.load("system" + Check.repeat(";term A", 6));
        Check.due("6 terms", six.termCount(), 6);
        for (int left = 5; left >= 0; left--) {
            six.removeTerm(left);
            Check.due("terms left", six.termCount(), left);
        }
        doc.plain("P19", "Returns the number of nodes of a term", "index of a term");
        doc.edge("P19", "Returns the number of nodes.");
        Check.due("a variable", Check.load("system;term A").termSize(0), 1);
        Check.due("a constant", Check.load(SYMBOLS + "term a").termSize(0), 1);
        Check.due("40 nodes", Check.load(SYMBOLS + "term " + chain(40, "A")).termSize(0), 40);
        Check.due("80 nodes", longChain("", 80).termSize(0), 80);
        doc.plain("P20", "Returns the depth of a term", "index of a term", "Returns the depth.");
        doc.edge("P20", "A variable and a symbol without arguments have the depth 1");
        OverlapBench ones = Check.load(SYMBOLS + "term h(a,b,A);term A;term a;term f(a);term f(A);term b");
        int[] depths = {2, 1, 1, 2, 2, 1};
        for (int i = 0; i < 6; i++) {
            Check.due("depth of term " + i, ones.termDepth(i), depths[i]);
        }
    }

    private static void nodeAnswers(Doc doc) {
        OverlapBench bench = Check.load(EIGHT + ";term h(A,g(H,a),b(d(a,b(e),B)));term f(f(C))");
        doc.plain("P21", "Returns the symbol of a node", "index of a term", "position in the term");
        doc.edge("P21", "Returns index of the symbol");
        Check.due("symbol 7", bench.symbolAt(0, 0), 7);
        Check.due("symbol 0", bench.symbolAt(0, 4), 0);
        Check.due("another term", bench.symbolAt(1, 1), 5);
        doc.edge("P21", "NONE if the node is a variable");
        Check.due("a variable first", bench.symbolAt(0, 1), -1);
        Check.due("the variable H", bench.symbolAt(0, 3), -1);
        Check.due("a variable last", bench.symbolAt(0, 10), -1);
        doc.plain("P22", "Returns the variable of a node", "index of a term", "position in the term");
        doc.edge("P22", "Returns 0 for the variable A to 7 for the variable H");
        Check.due("A", bench.variableAt(0, 1), 0);
        Check.due("H", bench.variableAt(0, 3), 7);
        Check.due("B", bench.variableAt(0, 10), 1);
        Check.due("C", bench.variableAt(1, 2), 2);
        doc.edge("P22", "NONE if the node is not a variable");
        Check.due("symbol 7 is none", bench.variableAt(0, 0), -1);
        Check.due("symbol 0 is none", bench.variableAt(0, 4), -1);
        doc.plain("P23", "Returns the number of nodes of the subterm", "index of a term", "position in the term");
        doc.edge("P23", "Returns the number of nodes.");
        // 0 h, 1 A, 2 g, 3 H, 4 a, 5 b, 6 d, 7 a, 8 b, 9 e, 10 B
        int[] sizes = {11, 1, 3, 1, 1, 6, 5, 1, 2, 1, 1};
        for (int p = 0; p < 11; p++) {
            Check.due("subterm at " + p, bench.subtermSize(0, p), sizes[p]);
        }
        OverlapBench eighty = longChain("", 80);
        Check.due("the whole of 80 nodes", eighty.subtermSize(0, 0), 80);
        Check.due("all but the root", eighty.subtermSize(0, 1), 79);
        Check.due("the last of 80 nodes", eighty.subtermSize(0, 79), 1);
        Check.throwsExactly("position 80", Check.OUT_OF_BOUNDS, () -> eighty.subtermSize(0, 80));
    }

    private static void termQuestions(Doc doc) {
        doc.plain("P24", "Tells whether a term contains no variable", "index of a term");
        doc.edge("P24", "true if it contains no variable");
        OverlapBench ground = Check.load(SYMBOLS + "term h(a,b,H);term h(A,b,a);term h(a,f(B),a);term h(a,b,f(b));term A;term "
                + "b");
        boolean[] due = {false, false, false, true, false, true};
        for (int i = 0; i < 6; i++) {
            Check.due("ground " + i, ground.isGround(i), due[i]);
        }
        doc.plain("P25", "Tells whether two terms are equal", "`term`: index of a term", "`other`: index of a term");
        doc.edge("P25", "with the same variables at the same positions");
        OverlapBench bench = Check.load(SYMBOLS + "term g(A,f(B));term g(A,f(C));term g(A,f(B));term g(B,f(A));term g(A,f(a));"
                + "term g(A,B)");
        for (int i = 0; i < 6; i++) {
            for (int k = 0; k < 6; k++) {
                Check.due("equal " + i + " " + k, bench.areEqual(i, k), i == k || i + k == 2 && i != 1);
            }
        }
        OverlapBench shapes = Check.load(SYMBOLS + "term A;term f(A);term f(f(A));term a;term b;term B");
        for (int i = 0; i < 6; i++) {
            for (int k = 0; k < 6; k++) {
                Check.due("equal shapes " + i + " " + k, shapes.areEqual(i, k), i == k);
            }
        }
        OverlapBench eighty = longChain("", 80);
        eighty.copySubterm(0, 0);
        Check.due("two of 80 nodes", eighty.areEqual(0, 1), true);
        OverlapBench last = Check.load(SYMBOLS + "term " + chain(40, "a") + ";term " + chain(40, "b"));
        Check.due("the last node differs", last.areEqual(0, 1), false);
    }

    private static void averages(Doc doc) {
        doc.plain("Terms", "The class parses");
        doc.plain("P26", "Returns the average number of nodes");
        doc.edge("P26", "Returns the sum of the sizes of all terms");
        Check.due("one node", Check.load("system;term A").averageSize(), 1.0);
        Check.due("of 1 and 2", Check.load(SYMBOLS + "term A;term f(A)").averageSize(), 1.5);
        Check.due("of 1, 1 and 2", Check.load(SYMBOLS + "term A;term f(A);term a").averageSize(), 4.0 / 3.0);
        OverlapBench six = longChain("", 80);
        for (int i = 0; i < 5; i++) {
            six.copySubterm(0, 0);
        }
        Check.due("six of 80", six.averageSize(), 80.0);
        six.removeTerm(5);
        six.copySubterm(0, 79);
        Check.due("five of 80 and one of 1", six.averageSize(), 401.0 / 6.0);
        doc.edge("P26", "0.0 without terms");
        Check.due("no terms", Check.load("system;symbol a 0;rule a=a").averageSize(), 0.0);
    }
}
