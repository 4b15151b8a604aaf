import java.util.List;
import java.util.function.Consumer;

/** Section 5 (written terms) and what the promises 46 to 50 answer at their edges. */
final class OutputEdges {
    private static final String SYMBOLS = TermEdges.SYMBOLS;

    private OutputEdges() {
    }

    static List<Consumer<Doc>> parts() {
        return List.of(
                OutputEdges::written, OutputEdges::terms, OutputEdges::rules, OutputEdges::normalForms,
                OutputEdges::pairs, OutputEdges::bytes);
    }

    private static void written(Doc doc) {
        doc.edge("5", "a variable by its letter");
        OverlapBench letters = Check.load("system ; symbol  f 1 ; symbol g 2;term A ; term  H;term g ( B , f ( G ) )  ");
        Check.due("A", Check.term(letters, 0), "A");
        Check.due("H", Check.term(letters, 1), "H");
        Check.due("without the spaces of the text", Check.term(letters, 2), "g(B,f(G))");
        doc.edge("5", "if it has arguments, an opening bracket");
        String deep = "azazaz(z(z(k)),k,b(azazaz(k,b(k,A),z(k)),H))";
        OverlapBench bench = Check.load("system;symbol k 0;symbol z 1;symbol b 2;symbol azazaz 3;term k;term z(k);term b(k,k);"
                + "term azazaz(k,k,k);term " + deep);
        String[] due = {"k", "z(k)", "b(k,k)", "azazaz(k,k,k)", deep};
        for (int i = 0; i < 5; i++) {
            Check.due("term " + i, Check.term(bench, i), due[i]);
        }
    }

    private static void terms(Doc doc) {
        doc.edge("P46", "Writes a term to the output, which replaces");
        doc.plain("P46", "index of a term");
        OverlapBench bench = Check.load(SYMBOLS + "term g(f(a),A);term B;term f(C)");
        Check.due("long", Check.output(bench, bench.writeTerm(0)), "g(f(a),A)");
        Check.due("shorter", Check.output(bench, bench.writeTerm(1)), "B");
        Check.due("longer", Check.output(bench, bench.writeTerm(2)), "f(C)");
        doc.edge("P46", "Returns the number of bytes");
        Check.due("9 bytes", bench.writeTerm(0), 9);
        Check.due("1 byte", bench.writeTerm(1), 1);
        Check.due("4 bytes", bench.writeTerm(2), 4);
        // 80 nodes of six letters: 79 names with two brackets each and a letter
        OverlapBench most = Check.load("system;symbol abcdef 1;term " + Check.repeat("abcdef(", 39) + "A"
                + Check.repeat(")", 39) + ";term abcdef(A)");
        most.replaceSubterm(0, 39, 0);
        most.replaceSubterm(0, 78, 1);
        Check.due("79 * 8 + 1 bytes", most.writeTerm(0), 633);
        Check.due("the last byte", most.outputByte(632), (int) ')');
        Check.due("the first bracket", most.outputByte(6), (int) '(');
        Check.due("the letter", most.outputByte(553), (int) 'A');
        Check.throwsExactly("behind it", Check.OUT_OF_BOUNDS, () -> most.outputByte(633));
    }

    private static void rules(Doc doc) {
        doc.edge("P47", "the left side, an equals sign and the right side");
        doc.plain("P47", "index of a rule");
        String left = "f(f(f(f(f(f(f(f(f(f(f(A)))))))))))";
        OverlapBench bench = Check.load(SYMBOLS + "rule a=b;rule " + left + "=" + left
                + ";rule h(A,H,C)=g(H,a)");
        Check.due("two constants", Check.output(bench, bench.writeRule(0)), "a=b");
        Check.due("12 nodes a side", Check.output(bench, bench.writeRule(1)), left + "=" + left);
        Check.due("variables", Check.output(bench, bench.writeRule(2)), "h(A,H,C)=g(H,a)");
        doc.edge("P47", "Returns the number of bytes");
        Check.due("3 bytes", bench.writeRule(0), 3);
        Check.due("69 bytes", bench.writeRule(1), 69);
        Check.due("15 bytes", bench.writeRule(2), 15);
    }

    private static void normalForms(Doc doc) {
        doc.plain("P48", "Writes the normal form", "index of a term");
        doc.edge("P48", "a single question mark if the reduction fails");
        OverlapBench limit = StepEdges.counting(200, 201);
        Check.due("200 steps", Check.output(limit, limit.writeNormalForm(0)), "z");
        Check.due("201 steps", Check.output(limit, limit.writeNormalForm(1)), "?");
        OverlapBench large = StepEdges.growing();
        Check.due("80 nodes", large.writeNormalForm(0), "f(g(,))".length() + 2 * TermEdges.chain(39, "a").length());
        Check.due("81 nodes", Check.output(large, large.writeNormalForm(1)), "?");
        Check.due("the term stays", large.termSize(1), 40);
        OverlapBench loop = Check.load(SYMBOLS + "rule a=a;rule g(A,B)=B;term g(a,b);term g(b,B)");
        Check.due("innermost steps run into the loop", Check.output(loop, loop.writeNormalForm(0)), "?");
        doc.edge("P48", "Returns the number of bytes");
        Check.due("a question mark", loop.writeNormalForm(0), 1);
        Check.due("a variable", loop.writeNormalForm(1), 1);
        Check.due("is written", loop.outputByte(0), (int) 'B');
        Check.due("a longer one", Check.load(SYMBOLS + "rule b=a;term f(b)").writeNormalForm(0), 4);
    }

    private static void pairs(Doc doc) {
        doc.edge("P49", "the first term, a less-than sign, a greater-than sign and the second term");
        doc.plain("P49", "index of a critical pair");
        OverlapBench bench = Check.load(SYMBOLS + "rule f(f(A))=g(A,a);rule f(b)=b");
        Check.due("self", Check.output(bench, bench.writePair(0)), "g(f(A),a)<>f(g(A,a))");
        Check.due("another rule", Check.output(bench, bench.writePair(1)), "g(b,a)<>f(b)");
        Check.due("the < sign", bench.outputByte(6), 60);
        Check.due("the > sign", bench.outputByte(7), 62);
        doc.edge("P49", "Returns the number of bytes");
        Check.due("20 bytes", bench.writePair(0), 20);
        Check.due("12 bytes", bench.writePair(1), 12);
        OverlapBench least = Check.load(SYMBOLS + "rule a=b;rule a=a");
        Check.due("4 bytes", least.writePair(0), 4);
        // A right side of four times 19 nodes and four more: both terms of the pair have 80, and all are symbols.
        String system = PairEdges.sized(80).replace("h(B,f(B),f(B))", "h(a,f(a),f(a))");
        OverlapBench most = Check.load(sixLetters(system.substring(0, system.length() - 1) + "f(f(h(A,A,g(A,A))))"));
        String six = "h(a,f(a),f(a))";
        String part = "h(" + six + "," + six + "," + six + ")";
        String first = "g(h(" + part + "," + part + "," + part + "),f(f(" + part + ")))";
        String second = "f(f(h(" + part + "," + part + ",g(" + part + "," + part + "))))";
        Check.longOutput("twice 80 nodes", most, most.writePair(0), sixLetters(first + "<>" + second));
    }

    private static String sixLetters(String text) {
        return text.replaceAll("\\b([afgh])\\b", "$1$1$1$1$1$1");
    }

    private static void bytes(Doc doc) {
        doc.plain("P50", "Returns a byte of the output", "index of the byte", "Returns the byte.");
        doc.edge("P50", "Throws `IndexOutOfBoundsException` if there is no such byte");
        OverlapBench bench = Check.load(SYMBOLS + "rule a=b;rule f(a)=a;term g(a,H);term A");
        bench.writeTerm(0);
        String text = "g(a,H)";
        for (int i = 0; i < 6; i++) {
            Check.due("byte " + i, bench.outputByte(i), (int) text.charAt(i));
        }
        for (int wrong : new int[] {-1, 6, 7, Integer.MIN_VALUE, Integer.MAX_VALUE}) {
            Check.throwsExactly("byte " + wrong, Check.OUT_OF_BOUNDS, () -> bench.outputByte(wrong));
        }
        bench.writeTerm(1);
        Check.due("byte 0 of a shorter one", bench.outputByte(0), (int) 'A');
        Check.throwsExactly("byte 1 of a shorter one", Check.OUT_OF_BOUNDS, () -> bench.outputByte(1));
        doc.edge("P50", "always, before the first output");
        OverlapBench none = new OverlapBench();
        Check.throwsExactly("new", Check.OUT_OF_BOUNDS, () -> none.outputByte(0));
        Check.parse(none, SYMBOLS + "rule a=b;rule f(a)=a;term g(a,H);term A");
        for (int wrong : new int[] {0, 1, -1, Integer.MIN_VALUE, Integer.MAX_VALUE}) {
            Check.throwsExactly("byte " + wrong + " of a system", Check.OUT_OF_BOUNDS, () -> none.outputByte(wrong));
        }
        Check.throwsExactly("a refused output", Check.OUT_OF_BOUNDS, () -> none.writeTerm(2));
        Check.throwsExactly("a refused output", Check.OUT_OF_BOUNDS, () -> none.writePair(1));
        none.normalize(0);
        none.unjoinedPairs();
        Check.throwsExactly("still before the first output", Check.OUT_OF_BOUNDS, () -> none.outputByte(0));
        none.writePair(0);
        Check.due("the first output", Check.output(none, 7), "a<>f(b)");
    }
}
