import java.util.List;
import java.util.function.Consumer;

/** The promises 1 to 6 at their edges: a new object, the input buffer and the latest parse error. */
final class InputEdges {
    private static final String SYMBOLS = TermEdges.SYMBOLS;
    private static final int SPACES = 0x20202020;

    private InputEdges() {
    }

    static List<Consumer<Doc>> parts() {
        return List.of(
                InputEdges::newObject, InputEdges::bytes, InputEdges::fullBuffer, InputEdges::firstBytes,
                InputEdges::emptied, InputEdges::cleared, InputEdges::rules, InputEdges::codes, InputEdges::positions,
                InputEdges::lengths, InputEdges::constants);
    }

    private static void newObject(Doc doc) {
        doc.edge("P1", "Creates a workbench without a system and with an empty input buffer");
        OverlapBench bench = new OverlapBench();
        Check.due("buffer", bench.bufferLength(), 0);
        Check.due("code", bench.parseErrorCode(), 0);
        Check.due("position", bench.parseErrorPosition(), -1);
        Check.due("undo", bench.undoCount(), 0);
        Check.throwsExactly("symbols", Check.ILLEGAL_STATE, bench::symbolCount);
        Check.throwsExactly("rules", Check.ILLEGAL_STATE, bench::ruleCount);
        Check.throwsExactly("terms", Check.ILLEGAL_STATE, bench::termCount);
        Check.throwsExactly("output", Check.OUT_OF_BOUNDS, () -> bench.outputByte(0));
        Check.throwsExactly("slot 0", Check.ILLEGAL_STATE, () -> bench.restoreState(0));
        Check.throwsExactly("slot 1", Check.ILLEGAL_STATE, () -> bench.restoreState(1));
        Check.throwsExactly("a byte of the empty buffer", Check.OUT_OF_BOUNDS, () -> bench.parseSystem(1));
        Check.due("the buffer has room for twenty bytes", bench.append(0, 0, 0, 0, 0), 20);
    }

    private static int append(OverlapBench bench, int[] words) {
        return bench.append(words[0], words[1], words[2], words[3], words[4]);
    }

    private static void bytes(Doc doc) {
        doc.edge("P2", "the four bytes of each argument in order, most significant byte first");
        String[] arguments = {"bytes 0 to 3", "bytes 4 to 7", "bytes 8 to 11", "bytes 12 to 15", "bytes 16 to 19"};
        for (int bad : new int[] {0, 1, 127, 128, 255}) {
            for (int at = 0; at < 20; at++) {
                OverlapBench bench = new OverlapBench();
                int[] words = {SPACES, SPACES, SPACES, SPACES, SPACES};
                int shift = 24 - 8 * (at % 4);
                words[at / 4] = words[at / 4] & ~(255 << shift) | bad << shift;
                append(bench, words);
                Check.throwsExactly("byte " + bad + " at " + at, Check.ILLEGAL_ARGUMENT, () -> bench.parseSystem(20));
                Check.due("is found there", bench.parseErrorPosition(), at);
            }
        }
        for (int i = 0; i < 5; i++) {
            doc.edge("P2", arguments[i]);
            OverlapBench bench = new OverlapBench();
            int[] words = {SPACES, SPACES, SPACES, SPACES, SPACES};
            words[i] = 0x41424344;
            append(bench, words);
            Check.throwsExactly("ABCD in argument " + i, Check.ILLEGAL_ARGUMENT, () -> bench.parseSystem(20));
            Check.due("begins there", bench.parseErrorPosition(), 4 * i);
        }
        OverlapBench order = new OverlapBench();
        // "syst" "em;s" "ymbo" "l ab" "cd 3"
        order.append(0x73797374, 0x656d3b73, 0x796d626f, 0x6c206162, 0x63642033);
        order.parseSystem(20);
        for (int i = 0; i < 4; i++) {
            Check.due("letter " + i, order.symbolLetter(0, i), 'a' + i);
        }
        Check.due("arity", order.symbolArity(0), 3);
    }

    private static void fullBuffer(Doc doc) {
        doc.edge("P2", "Returns the new length of the buffer");
        OverlapBench bench = new OverlapBench();
        for (int i = 1; i <= 25; i++) {
            Check.due("append " + i, bench.append(-1, -1, -1, -1, -1), 20 * i);
        }
        doc.edge("P2", "NONE if the buffer would hold more than 500 bytes");
        Check.due("append 26", bench.append(SPACES, SPACES, SPACES, SPACES, SPACES), -1);
        Check.due("append 27", bench.append(0, 0, 0, 0, 0), -1);
        Check.due("nothing is appended", bench.bufferLength(), 500);
        Check.throwsExactly("501 bytes", Check.OUT_OF_BOUNDS, () -> bench.parseSystem(501));
        String text = SYMBOLS + "term " + TermEdges.chain(40, "a");
        OverlapBench filled = new OverlapBench();
        Check.feed(filled, text + Check.repeat(" ", 490 - text.length()) + ";term f(b)");
        Check.due("500 bytes", filled.bufferLength(), 500);
        Check.due("no more", filled.append(-1, -1, -1, -1, -1), -1);
        Check.due("the 500 bytes are as they were", filled.parseSystem(500), 0);
        Check.due("from the first", filled.termSize(0), 40);
        Check.due("to the last", Check.term(filled, 1), "f(b)");
        Check.due("room again", filled.append(0, 0, 0, 0, 0), 20);
    }

    private static void firstBytes(Doc doc) {
        String text = SYMBOLS + "rule f(A)=a;rule a=b;term f(a);term b";
        int oneRule = (SYMBOLS + "rule f(A)=a").length();
        doc.edge("P3", "Parses the first bytes of the input buffer");
        OverlapBench bench = new OverlapBench();
        Check.feed(bench, text);
        Check.due("one rule of the text", bench.parseSystem(oneRule), 1);
        Check.due("no term of it", bench.termCount(), 0);
        doc.edge("P3", "`length`: number of bytes to parse");
        OverlapBench none = new OverlapBench();
        Check.throwsExactly("no bytes of none", Check.ILLEGAL_ARGUMENT, () -> none.parseSystem(0));
        Check.feed(none, text);
        Check.throwsExactly("no bytes", Check.ILLEGAL_ARGUMENT, () -> none.parseSystem(0));
        Check.due("end too early", none.parseErrorPosition(), 0);
        Check.feed(none, text);
        Check.throwsExactly("5 bytes", Check.ILLEGAL_ARGUMENT, () -> none.parseSystem(5));
        Check.due("a wrong word", none.parseErrorPosition(), 0);
        Check.feed(none, text);
        Check.due("6 bytes", none.parseSystem(6), 0);
        Check.feed(none, text);
        int all = none.bufferLength();
        Check.due("all bytes, with the spaces behind", none.parseSystem(all), 2);
        Check.due("two terms", none.termCount(), 2);
    }

    private static void emptied(Doc doc) {
        doc.edge("P3", "The buffer is empty afterwards, whether the text is valid or not");
        OverlapBench bench = new OverlapBench();
        Check.feed(bench, "system;symbol a 0;term a");
        bench.parseSystem(6);
        Check.due("after a valid text", bench.bufferLength(), 0);
        Check.throwsExactly("no byte is left", Check.OUT_OF_BOUNDS, () -> bench.parseSystem(1));
        Check.feed(bench, "system;symbol a 0;term a");
        Check.throwsExactly("an invalid text", Check.ILLEGAL_ARGUMENT, () -> bench.parseSystem(7));
        Check.due("after it", bench.bufferLength(), 0);
        Check.throwsExactly("no byte is left", Check.OUT_OF_BOUNDS, () -> bench.parseSystem(1));
        Check.due("the next text begins at 0", Check.parse(bench, "system;symbol b 1;rule b(A)=A"), 1);
        Check.due("and is all", bench.symbolLetter(0, 0), (int) 'b');
        OverlapBench full = new OverlapBench();
        for (int round = 0; round < 3; round++) {
            for (int i = 1; i <= 25; i++) {
                Check.due("append " + i + " of round " + round, full.append(-1, -1, -1, -1, -1), 20 * i);
            }
            Check.throwsExactly("full of wrong bytes", Check.ILLEGAL_ARGUMENT, () -> full.parseSystem(500));
            Check.due("empty", full.bufferLength(), 0);
        }
    }

    private static void cleared(Doc doc) {
        doc.edge("P3", "If it is valid, the undo history and both saved states are cleared");
        OverlapBench bench = Check.load(SYMBOLS + "rule a=b;term a;term f(a)");
        bench.saveState(0);
        bench.saveState(1);
        bench.removeTerm(0);
        bench.removeRule(0);
        Check.due("a refused text", Check.parse(bench, "system;term a"), Check.ILLEGAL_ARGUMENT);
        Check.due("leaves the changes", bench.undoCount(), 2);
        Check.due("which can be undone", bench.undo(), 1);
        Check.due("leaves slot 0", bench.restoreState(0), 2);
        Check.due("leaves slot 1", bench.restoreState(1), 2);
        bench.removeTerm(0);
        Check.due("a valid text", Check.parse(bench, "system;term A"), 0);
        Check.due("clears the changes", bench.undoCount(), 0);
        Check.throwsExactly("nothing to undo", Check.ILLEGAL_STATE, bench::undo);
        Check.throwsExactly("clears slot 0", Check.ILLEGAL_STATE, () -> bench.restoreState(0));
        Check.throwsExactly("clears slot 1", Check.ILLEGAL_STATE, () -> bench.restoreState(1));
        Check.due("no symbol of before", bench.symbolCount(), 0);
        Check.due("no pair of before", bench.criticalPairCount(), 0);
        Check.due("the terms of the text", Check.system(bench), "A;");
    }

    private static void rules(Doc doc) {
        doc.edge("P3", "Returns the number of rules");
        Check.due("none", Check.parse(new OverlapBench(), "system"), 0);
        Check.due("one", Check.parse(new OverlapBench(), SYMBOLS + "rule a=b;term a;term b"), 1);
        Check.due("six", Check.parse(new OverlapBench(), SYMBOLS + Check.repeat("rule a=b;", 5) + "rule b=a"), 6);
    }

    private static void wrongLength(OverlapBench bench) {
        Check.throwsExactly("a wrong length", Check.OUT_OF_BOUNDS, () -> bench.parseSystem(501));
    }

    private static void codes(Doc doc) {
        doc.edge("P4", "Returns the error code of the latest call of parseSystem that did not throw IndexOutOfBoundsException");
        OverlapBench bench = new OverlapBench();
        String[] texts = {"system;", "system;symbol a 4", "system;term a", "system;rule A", TermEdges.EIGHT + ";symbol"};
        for (int code = 1; code <= 5; code++) {
            Check.due("a wrong text", Check.parse(bench, texts[code - 1]), Check.ILLEGAL_ARGUMENT);
            Check.due("its code", bench.parseErrorCode(), code);
            wrongLength(bench);
            Check.due("stays", bench.parseErrorCode(), code);
        }
        doc.plain("P4", "Returns one of the error constants");
        doc.edge("P4", "0 if that call succeeded or if there was no such call");
        Check.parse(bench, "system");
        Check.due("after success", bench.parseErrorCode(), 0);
        wrongLength(bench);
        Check.due("still", bench.parseErrorCode(), 0);
        OverlapBench none = new OverlapBench();
        Check.due("no call", none.parseErrorCode(), 0);
        wrongLength(none);
        Check.due("no such call", none.parseErrorCode(), 0);
    }

    private static void positions(Doc doc) {
        doc.plain("P5", "Returns the position of the error of that call");
        doc.edge("P5", "Returns index of the first byte of the token with the error");
        Check.refused(1, "|!");
        Check.refused(1, "   |systems");
        Check.refused(3, "system;term   |abcdef");
        Check.refusedAt(1, "system" + Check.repeat(" ", 493) + "!", 499);
        doc.edge("P5", "the number of parsed bytes if the text ended too early");
        Check.refused(1, "|");
        Check.refused(1, "    |");
        Check.refused(1, "system;|");
        Check.refused(1, "system;   |");
        Check.refusedAt(1, "system;" + Check.repeat(" ", 493), 500);
        OverlapBench cut = new OverlapBench();
        Check.feed(cut, "system;symbol a 0;term a");
        Check.throwsExactly("a text cut off", Check.ILLEGAL_ARGUMENT, () -> cut.parseSystem(13));
        Check.due("ends there", cut.parseErrorPosition(), 13);
        doc.edge("P5", "NONE if parseErrorCode() is 0");
        Check.parse(cut, "system");
        Check.due("after success", cut.parseErrorPosition(), -1);
        wrongLength(cut);
        Check.due("still", cut.parseErrorPosition(), -1);
        Check.due("no call", new OverlapBench().parseErrorPosition(), -1);
    }

    private static void lengths(Doc doc) {
        doc.plain("P6", "Returns the number of bytes in the input buffer");
        doc.edge("P6", "Returns the length, 0 to 500");
        OverlapBench bench = new OverlapBench();
        Check.due("empty", bench.bufferLength(), 0);
        for (int i = 1; i <= 27; i++) {
            bench.append(SPACES, SPACES, SPACES, SPACES, SPACES);
            Check.due("after append " + i, bench.bufferLength(), Math.min(20 * i, 500));
        }
        wrongLength(bench);
        Check.due("full", bench.bufferLength(), 500);
        Check.throwsExactly("500 spaces", Check.ILLEGAL_ARGUMENT, () -> bench.parseSystem(500));
        Check.due("empty again", bench.bufferLength(), 0);
    }

    private static void constants(Doc doc) {
        int[] values = {OverlapBench.NONE, OverlapBench.SYNTAX_ERROR, OverlapBench.RANGE_ERROR, OverlapBench.NAME_ERROR,
            OverlapBench.RULE_ERROR, OverlapBench.LIMIT_ERROR};
        String[] names = {"`NONE = -1`", "`SYNTAX_ERROR = 1`", "`RANGE_ERROR = 2`", "`NAME_ERROR = 3`", "`RULE_ERROR = 4`",
            "`LIMIT_ERROR = 5`"};
        for (int i = 0; i < 6; i++) {
            doc.edge("constants", names[i]);
            Check.due("value", values[i], i == 0 ? -1 : i);
        }
        doc.plain("constants", "input buffer and system.", "---- symbols", "---- rules", "---- terms",
                "---- matching and redexes", "---- normal forms", "---- unification", "---- critical pairs",
                "---- text output", "---- changes");
    }
}
