/** Promises 1 to 6 and section 6: a new object, the input buffer, and what texts are taken and refused. */
public final class InputTest {
    private static final String SYMBOLS = "system;symbol a 0;symbol f 1;symbol g 2;symbol h 3;";

    public static void main(String[] args) {
        newObject();
        buffer();
        parsing();
        failedParse();
        texts();
        words();
        symbols();
        termErrors();
        ruleErrors();
        limits();
        indexItems();
        actions();
        Check.finish();
    }

    private static void newObject() {
        OverlapBench bench = new OverlapBench();
        Check.due("new bufferLength", bench.bufferLength(), 0);
        Check.due("new parseErrorCode", bench.parseErrorCode(), 0);
        Check.due("new parseErrorPosition", bench.parseErrorPosition(), -1);
        Check.due("new undoCount", bench.undoCount(), 0);
        Check.throwsExactly("new undo", Check.ILLEGAL_STATE, bench::undo);
        Check.throwsExactly("new restoreState(0)", Check.ILLEGAL_STATE, () -> bench.restoreState(0));
        Check.throwsExactly("new restoreState(1)", Check.ILLEGAL_STATE, () -> bench.restoreState(1));
        Check.throwsExactly("new restoreState(2)", Check.OUT_OF_BOUNDS, () -> bench.restoreState(2));
        Check.throwsExactly("new outputByte(0)", Check.OUT_OF_BOUNDS, () -> bench.outputByte(0));
        Check.throwsExactly("new parseSystem(1)", Check.OUT_OF_BOUNDS, () -> bench.parseSystem(1));
        Check.throwsExactly("new parseSystem(0)", Check.ILLEGAL_ARGUMENT, () -> bench.parseSystem(0));
        Check.due("code of the empty text", bench.parseErrorCode(), 1);
        Check.due("position of the empty text", bench.parseErrorPosition(), 0);
        for (int index : new int[] {0, -1, 9}) {
            withoutSystem(new OverlapBench(), index);
        }
    }

    private static void withoutSystem(OverlapBench bench, int i) {
        Check.Call[] calls = {
            bench::symbolCount, () -> bench.symbolArity(i), () -> bench.symbolLetter(i, i), () -> bench.symbolUses(i),
            bench::ruleCount, () -> bench.leftSize(i), () -> bench.rightSize(i), () -> bench.isLeftLinear(i),
            () -> bench.isCollapsing(i), () -> bench.isDuplicating(i), () -> bench.decreasesSize(i), bench::termCount,
            () -> bench.termSize(i), () -> bench.termDepth(i), () -> bench.symbolAt(i, i), () -> bench.variableAt(i, i),
            () -> bench.subtermSize(i, i), () -> bench.isGround(i), () -> bench.areEqual(i, i), bench::averageSize,
            () -> bench.matches(i, i, i), () -> bench.ruleAt(i, i), () -> bench.redexCount(i),
            () -> bench.innermostRedex(i), () -> bench.outermostRedex(i), () -> bench.isNormalForm(i),
            bench::normalShare, () -> bench.stepsInnermost(i), () -> bench.stepsOutermost(i),
            () -> bench.normalFormSize(i), () -> bench.haveSameNormalForm(i, i), () -> bench.unify(i, i),
            () -> bench.unifiedSize(i, i), bench::criticalPairCount, () -> bench.pairOuterRule(i),
            () -> bench.pairInnerRule(i), () -> bench.pairPosition(i), () -> bench.pairJoins(i), bench::unjoinedPairs,
            () -> bench.writeTerm(i), () -> bench.writeRule(i), () -> bench.writeNormalForm(i),
            () -> bench.writePair(i), () -> bench.rewrite(i, i, i), () -> bench.stepInnermost(i),
            () -> bench.stepOutermost(i), () -> bench.normalize(i), () -> bench.copySubterm(i, i),
            () -> bench.replaceSubterm(i, i, i), () -> bench.swapRules(i, i), () -> bench.removeRule(i),
            () -> bench.reverseRule(i), () -> bench.removeTerm(i), () -> bench.saveState(i),
        };
        for (int k = 0; k < calls.length; k++) {
            Check.throwsExactly("call " + k + " without a system", Check.ILLEGAL_STATE, calls[k]);
        }
        Check.due("undoCount without a system", bench.undoCount(), 0);
    }

    private static void buffer() {
        OverlapBench bench = new OverlapBench();
        for (int i = 1; i <= 25; i++) {
            Check.due("append " + i, bench.append(0x20202020, 0x20202020, -1, 0, 0x7fffffff), 20 * i);
            Check.due("bufferLength " + i, bench.bufferLength(), 20 * i);
        }
        Check.due("append 26", bench.append(0, 0, 0, 0, 0), OverlapBench.NONE);
        Check.due("bufferLength after append 26", bench.bufferLength(), 500);
        Check.throwsExactly("parse all 500", Check.ILLEGAL_ARGUMENT, () -> bench.parseSystem(500));
        Check.due("position in the 500", bench.parseErrorPosition(), 8);
        Check.due("bufferLength after parse", bench.bufferLength(), 0);
        Check.due("append after parse", bench.append(0, 0, 0, 0, 0), 20);

        // "syst" "em;s" "ymbo" "l ab" " 2  "
        OverlapBench order = new OverlapBench();
        order.append(0x73797374, 0x656d3b73, 0x796d626f, 0x6c206162, 0x20322020);
        Check.due("parse of the bytes in order", order.parseSystem(20), 0);
        Check.due("letter 0", order.symbolLetter(0, 0), (int) 'a');
        Check.due("letter 1", order.symbolLetter(0, 1), (int) 'b');
        Check.due("arity", order.symbolArity(0), 2);

        String full = "system;symbol a 0;symbol f 1;term " + Check.repeat("f(", 39) + "a" + Check.repeat(")", 39);
        String filled = full + Check.repeat(" ", 500 - full.length());
        OverlapBench long500 = Check.load(filled);
        Check.due("size of the term in 500 bytes", long500.termSize(0), 40);
    }

    private static void parsing() {
        OverlapBench bench = new OverlapBench();
        Check.feed(bench, SYMBOLS + "rule f(A)=A;rule g(A,B)=A;term a");
        int length = bench.bufferLength();
        Check.throwsExactly("length -1", Check.OUT_OF_BOUNDS, () -> bench.parseSystem(-1));
        Check.throwsExactly("least length", Check.OUT_OF_BOUNDS, () -> bench.parseSystem(Integer.MIN_VALUE));
        Check.throwsExactly("length + 1", Check.OUT_OF_BOUNDS, () -> bench.parseSystem(length + 1));
        Check.due("buffer after a wrong length", bench.bufferLength(), length);
        Check.due("code after a wrong length", bench.parseErrorCode(), 0);
        Check.due("rules of the whole text", bench.parseSystem(length), 2);
        Check.due("buffer after it", bench.bufferLength(), 0);

        Check.feed(bench, SYMBOLS + "rule f(A)=A;rule g(A,B)=A;term a");
        Check.due("rules of the first bytes", bench.parseSystem((SYMBOLS + "rule f(A)=A").length()), 1);
        Check.due("buffer after the first bytes", bench.bufferLength(), 0);
        Check.due("terms of the first bytes", bench.termCount(), 0);
        Check.due("rules are those of the text", Check.system(bench), "f(A)=A;");

        Check.feed(bench, "system x");
        Check.throwsExactly("too short", Check.ILLEGAL_ARGUMENT, () -> bench.parseSystem(5));
        Check.due("position in the short text", bench.parseErrorPosition(), 0);
        Check.due("parse again", Check.parse(bench, "system"), 0);
        Check.due("code is cleared", bench.parseErrorCode(), 0);
        Check.due("position is cleared", bench.parseErrorPosition(), -1);
        Check.due("no symbols are left", bench.symbolCount(), 0);
        Check.due("no rules are left", bench.ruleCount(), 0);
        Check.due("no terms are left", bench.termCount(), 0);
    }

    private static void failedParse() {
        OverlapBench bench = Check.load("system;symbol a 0;symbol ff 1;rule ff(A)=A;term ff(ff(a));term B");
        bench.saveState(0);
        bench.stepInnermost(0);
        bench.writeTerm(0);
        Check.due("a bad text", Check.parse(bench, "system;symbol x 0;term x;term y"), Check.ILLEGAL_ARGUMENT);
        Check.due("its code", bench.parseErrorCode(), OverlapBench.NAME_ERROR);
        Check.due("its position", bench.parseErrorPosition(), 30);
        Check.due("its buffer", bench.bufferLength(), 0);
        Check.due("symbols stay", bench.symbolCount(), 2);
        Check.due("names stay", bench.symbolLetter(1, 1), (int) 'f');
        Check.due("output stays", Check.output(bench, 5), "ff(a)");
        Check.due("rules and terms stay", Check.system(bench), "ff(A)=A;ff(a);B;");
        Check.due("undo stays", bench.undoCount(), 1);
        Check.throwsExactly("wrong length", Check.OUT_OF_BOUNDS, () -> bench.parseSystem(1));
        Check.due("code stays after a wrong length", bench.parseErrorCode(), OverlapBench.NAME_ERROR);
        Check.due("position stays after a wrong length", bench.parseErrorPosition(), 30);
        Check.due("undo", bench.undo(), 0);
        Check.due("undone", Check.system(bench), "ff(A)=A;ff(ff(a));B;");
        Check.due("the slot stays", bench.restoreState(0), 2);

        bench.stepInnermost(0);
        bench.writeTerm(1);
        Check.due("a good text", Check.parse(bench, "system;symbol b 0;term b"), 0);
        Check.due("undo is cleared", bench.undoCount(), 0);
        Check.throwsExactly("nothing to undo", Check.ILLEGAL_STATE, bench::undo);
        Check.throwsExactly("slot 0 is cleared", Check.ILLEGAL_STATE, () -> bench.restoreState(0));
        Check.throwsExactly("slot 1 is empty", Check.ILLEGAL_STATE, () -> bench.restoreState(1));
        Check.due("the output is not replaced", Check.output(bench, 1), "B");
    }

    private static void texts() {
        Check.taken("system", "");
        Check.taken("  system  ", "");
        Check.taken("system;symbol a 0", "");
        Check.taken(" system ; symbol a 0 ; term a ", "a;");
        Check.taken("system;symbol a0;symbol f2;rule f(A,B)=B;term f(a,C)", "f(A,B)=B;f(a,C);");
        Check.taken(SYMBOLS + "term h ( A , f ( B ) , g ( a , H ) ) ", "h(A,f(B),g(a,H));");
        Check.taken(SYMBOLS + "rule g ( A , A ) = f ( A ) ; term A", "g(A,A)=f(A);A;");
        Check.refused(1, "|");
        Check.refused(1, "   |");
        Check.refused(1, "|rule");
        Check.refused(1, "|;");
        Check.refused(1, "|System");
        Check.refused(1, "|systems");
        Check.refused(1, "|syste");
        Check.refused(1, "system;|");
        Check.refused(1, "system;  |");
        Check.refused(1, "system |symbol a 0");
        Check.refused(1, "system;|;");
        Check.refused(1, "system;|symbols a 0");
        Check.refused(1, "system;|system");
        Check.refused(1, "system;|a");
        Check.refused(1, "system;|A");
        Check.refused(1, "system;|1");
        Check.refused(1, "system|=");
        Check.refused(1, "system|,");
        Check.refused(1, "system|(");
        Check.refused(1, "system|)");
        Check.refused(1, "system|0");
        Check.refused(1, "system|A");
        Check.refused(1, SYMBOLS + "term a |term a");
        Check.refused(1, SYMBOLS + "term a;|");
        for (int bad : new int[] {0, 1, 9, 10, 13, 31, '!', '*', '-', '.', ':', '<', '>', '?', '@', 'I', 'Z', '[', '`',
            '{', '|' + 1, '~', 127, 128, 160, 193, 225, 255}) {
            Check.refused(1, "system |" + (char) bad);
            Check.refused(1, SYMBOLS + "term |" + (char) bad);
        }
    }

    private static void words() {
        Check.taken("system;symbol abcdef 0;term abcdef", "abcdef;");
        Check.taken("system;symbol rule 1;symbol system 0;symbol term 2;symbol symbol 0;symbol copy 0;symbol flip 0;symbol step "
                + "0;rule rule(A)=system;term term(copy,term(flip,rule(step)));step 0;copy 0",
                "rule(A)=system;term(copy,term(flip,system));term(copy,term(flip,system));");
        Check.refused(1, "system;symbol |abcdefg 0");
        Check.refused(1, "system;symbol abcdef 0;term |abcdefg");
        Check.refused(1, "system;|symbola 0");
        Check.refused(1, "system;|symbo a 0");
        Check.refused(1, SYMBOLS + "|rulex a=a");
        Check.refused(1, SYMBOLS + "|rul a=a");
        Check.refused(1, SYMBOLS + "|terms a");
        Check.refused(1, SYMBOLS + "term a;|copyx 0");
        Check.refused(1, SYMBOLS + "rule a=a;|flips 0");
        Check.refused(1, SYMBOLS + "rule a=a;term a;|steps 0");
        Check.refused(1, "system;symbol |Ab 0");
        Check.refused(1, "system;symbol |1 0");
        Check.refused(1, "system;symbol |");
        Check.refused(1, "system;symbol |;");
        Check.refused(1, "system;symbol a|");
        Check.refused(1, "system;symbol a |b");
        Check.refused(1, "system;symbol a|B");
        Check.refused(1, "system;symbol a|;");
        Check.refused(1, "system;symbol a1|2");
        Check.refused(1, "system;symbol a 0|0");
    }

    private static void symbols() {
        OverlapBench bench = Check.load("system;symbol a 0;symbol b 1;symbol c 2;symbol d 3;symbol aa 3;symbol ab 2;symbol ba "
                + "1;symbol abc 0");
        Check.due("8 symbols", bench.symbolCount(), 8);
        Check.refused(2, "system;symbol a |4");
        Check.refused(2, "system;symbol a |9");
        Check.refused(3, "system;symbol a 0;symbol |a 1");
        Check.refused(3, "system;symbol a 0;symbol |a");
        Check.refused(3, "system;symbol a 0;symbol b 0;symbol |a 9");
        String eight = "system";
        for (char c = 'a'; c < 'i'; c++) {
            eight += ";symbol " + c + " 0";
        }
        Check.taken(eight, "");
        Check.refused(5, eight + ";|symbol i 0");
        Check.refused(5, eight + ";|symbol");
        Check.refused(5, eight + ";|symbol a 9");
    }

    private static void termErrors() {
        Check.refused(3, SYMBOLS + "term |b");
        Check.refused(3, SYMBOLS + "term g(a,|ff)");
        Check.refused(3, SYMBOLS + "term |term");
        Check.refused(3, "system;term |a;symbol a 0");
        Check.refused(1, SYMBOLS + "term |");
        Check.refused(1, SYMBOLS + "term |;");
        Check.refused(1, SYMBOLS + "term |1");
        Check.refused(1, SYMBOLS + "term |(a)");
        Check.refused(1, SYMBOLS + "term |=");
        Check.refused(1, SYMBOLS + "term a|(");
        Check.refused(1, SYMBOLS + "term a|()");
        Check.refused(1, SYMBOLS + "term a|,");
        Check.refused(1, SYMBOLS + "term a|=a");
        Check.refused(1, SYMBOLS + "term A|(a)");
        Check.refused(1, SYMBOLS + "term A|B");
        Check.refused(1, SYMBOLS + "term f|");
        Check.refused(1, SYMBOLS + "term f|;");
        Check.refused(1, SYMBOLS + "term f|,");
        Check.refused(1, SYMBOLS + "term f |a");
        Check.refused(1, SYMBOLS + "term f(|");
        Check.refused(1, SYMBOLS + "term f(|)");
        Check.refused(1, SYMBOLS + "term f(a|");
        Check.refused(1, SYMBOLS + "term f(a|,a)");
        Check.refused(1, SYMBOLS + "term f(a|;");
        Check.refused(1, SYMBOLS + "term f(a)|)");
        Check.refused(1, SYMBOLS + "term g(a|)");
        Check.refused(1, SYMBOLS + "term g(a,|)");
        Check.refused(1, SYMBOLS + "term g(a,a|,a)");
        Check.refused(1, SYMBOLS + "term g(f(a|,a),a)");
        Check.refused(1, SYMBOLS + "term h(a,a|)");
        Check.refused(1, SYMBOLS + "term h(a,g(a|),a)");
        Check.refused(1, SYMBOLS + "term h(a,g(a,a),a|,");
        Check.refused(1, SYMBOLS + "term h(a,g(a,a),a|");
        Check.refused(1, SYMBOLS + "term h(a,g(a,a),a|;");
    }

    private static void ruleErrors() {
        Check.refused(1, SYMBOLS + "rule |");
        Check.refused(1, SYMBOLS + "rule |=a");
        Check.refused(1, SYMBOLS + "rule a|");
        Check.refused(1, SYMBOLS + "rule a|;");
        Check.refused(1, SYMBOLS + "rule a|(");
        Check.refused(1, SYMBOLS + "rule a=|");
        Check.refused(1, SYMBOLS + "rule a=|=");
        Check.refused(1, SYMBOLS + "rule a=|;");
        Check.refused(1, SYMBOLS + "rule a=a|=a");
        Check.refused(3, SYMBOLS + "rule |b=a");
        Check.refused(3, SYMBOLS + "rule a=|b");
        Check.refused(4, SYMBOLS + "rule |A=a");
        Check.refused(4, SYMBOLS + "rule |A");
        Check.refused(4, SYMBOLS + "rule |H(");
        Check.refused(4, SYMBOLS + "rule a=|A");
        Check.refused(4, SYMBOLS + "rule f(A)=|B");
        Check.refused(4, SYMBOLS + "rule f(A)=g(A,|B)");
        Check.refused(4, SYMBOLS + "rule f(A)=A;rule f(B)=|A");
        Check.taken(SYMBOLS + "rule h(A,B,C)=h(C,B,f(A));rule a=a", "h(A,B,C)=h(C,B,f(A));a=a;");
    }

    private static void limits() {
        String six = SYMBOLS + Check.repeat("rule f(A)=A;", 6);
        Check.taken(six + "term A", Check.repeat("f(A)=A;", 6) + "A;");
        Check.refused(5, six + "|rule f(A)=A");
        Check.refused(5, six + "|rule");
        Check.refused(5, six + "|rule A");
        String terms = SYMBOLS + Check.repeat("term A;", 6);
        Check.taken(terms + "rule f(A)=A", "f(A)=A;" + Check.repeat("A;", 6));
        Check.refused(5, terms + "|term A");
        Check.refused(5, terms + "|term");
        Check.refused(5, terms + "|copy 0");
        Check.refused(5, terms + "|copy 9");
        Check.refused(5, SYMBOLS + "term A;" + Check.repeat("copy 0;", 5) + "|copy 0");

        String eleven = Check.repeat("f(", 11);
        String closed = Check.repeat(")", 11);
        Check.taken(SYMBOLS + "rule " + eleven + "a" + closed + "=" + eleven + "a" + closed,
                eleven + "a" + closed + "=" + eleven + "a" + closed + ";");
        Check.refused(5, SYMBOLS + "rule " + eleven + "f(|a)" + closed + "=a");
        Check.refused(5, SYMBOLS + "rule " + eleven + "f(|A)" + closed + "=a");
        Check.refused(5, SYMBOLS + "rule " + eleven + "f(|f");
        Check.refused(3, SYMBOLS + "rule " + eleven + "f(|b");
        Check.refused(1, SYMBOLS + "rule " + eleven + "f(|)");
        Check.refused(5, SYMBOLS + "rule f(A)=" + eleven + "f(|a");
        Check.refused(5, SYMBOLS + "rule f(A)=" + eleven + "f(|A");
        Check.refused(4, SYMBOLS + "rule f(A)=" + eleven + "f(|B");
        Check.refused(3, SYMBOLS + "rule f(A)=" + eleven + "f(|b");
        Check.refused(5, SYMBOLS + "rule h(h(a,a,a),h(a,a,a),h(a,a,|h(a,a,a)))=a");

        String chain = Check.repeat("f(", 39);
        String end = Check.repeat(")", 39);
        Check.taken(SYMBOLS + "term " + chain + "a" + end, chain + "a" + end + ";");
        Check.refused(5, SYMBOLS + "term " + chain + "f(|a)" + end);
        Check.refused(5, SYMBOLS + "term " + chain + "f(|A)" + end);
        Check.refused(3, SYMBOLS + "term " + chain + "f(|x)" + end);
        Check.refused(1, SYMBOLS + "term " + chain + "f(|1)" + end);
    }

    private static void indexItems() {
        Check.refused(1, SYMBOLS + "copy|");
        Check.refused(1, SYMBOLS + "copy |a");
        Check.refused(1, SYMBOLS + "flip |A");
        Check.refused(1, SYMBOLS + "step |;");
        Check.refused(2, SYMBOLS + "copy |0");
        Check.refused(2, SYMBOLS + "flip |0");
        Check.refused(2, SYMBOLS + "step |0");
        Check.refused(2, SYMBOLS + "term a;copy |1");
        Check.refused(2, SYMBOLS + "term a;rule a=a;step |1");
        Check.refused(2, SYMBOLS + "term f(a);rule f(a)=a;flip |1");
        Check.refused(2, SYMBOLS + "term a;flip |0");
        Check.refused(1, SYMBOLS + "term a;copy 0|0");
        Check.taken(SYMBOLS + "term f(B);copy0;copy 1", "f(B);f(B);f(B);");
    }

    private static void actions() {
        Check.refused(4, SYMBOLS + "rule f(A)=A;flip |0");
        Check.refused(4, SYMBOLS + "rule g(A,B)=f(A);flip |0");
        Check.refused(4, SYMBOLS + "term f(a);step |0");
        Check.refused(4, SYMBOLS + "rule f(A)=A;term f(a);step 0;step |0");
        Check.refused(1, SYMBOLS + "rule f(A)=g(A,A);flip 0|0");
        Check.taken(SYMBOLS + "rule f(A)=g(A,A);flip 0", "g(A,A)=f(A);");
        Check.taken(SYMBOLS + "rule f(A)=g(A,A);flip 0;flip 0", "f(A)=g(A,A);");
        Check.taken(SYMBOLS + "rule f(A)=A;term g(f(f(a)),f(a));copy 0;step 1;step 1;copy 1",
                "f(A)=A;g(f(f(a)),f(a));g(a,f(a));g(a,f(a));");
        Check.taken(SYMBOLS + "rule f(A)=a;term f(A);rule f(f(A))=f(A);step 0;rule a=f(a);step 0",
                "f(A)=a;f(f(A))=f(A);a=f(a);f(a);");
        // The argument has 26 nodes: three copies and two symbols make 80, one node more is too large.
        String big = "h(" + Check.repeat("f(", 11) + "a" + Check.repeat(")", 11) + "," + Check.repeat("f(", 11) + "a"
                + Check.repeat(")", 11) + ",A)";
        String grow = "system;symbol a 0;symbol f 1;symbol h 3;symbol k 1;rule k(A)=f(h(A,A,A));term k(";
        OverlapBench bench = Check.load(grow + big + ");step 0");
        Check.due("step to 80 nodes", bench.termSize(0), 80);
        Check.refused(4, grow + "f(" + big + "));step |0");
    }
}
