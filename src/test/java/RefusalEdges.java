import java.util.Arrays;
import java.util.List;
import java.util.function.Consumer;
import java.util.function.Supplier;

/**
 * Section 7 on exceptions, and every "Throws" of the promises: what is thrown for an index outside its range, before a
 * system is loaded and where several exceptions apply, and that a call which throws changes nothing.
 */
final class RefusalEdges {
    private static final String SYMBOLS = TermEdges.SYMBOLS;
    private static final String NO_SYSTEM = "Throws `IllegalStateException` if no system has been loaded";
    private static final String NO_INDEX = "Throws `IndexOutOfBoundsException`";
    private static final String NOT_ALLOWED = "Throws `IllegalArgumentException`";

    private RefusalEdges() {
    }

    interface On {
        Object run(OverlapBench bench, int... arguments);
    }

    /** A method with the kinds of its arguments: symbol, rule, term, position in term 1, pair, slot, or one without bounds. */
    record Method(String promise, String kinds, On call) {
    }

    private static final Method[] METHODS = {
        new Method("P7", "", (b, a) -> b.symbolCount()), new Method("P8", "s", (b, a) -> b.symbolArity(a[0])),
        new Method("P9", "sx", (b, a) -> b.symbolLetter(a[0], a[1])), new Method("P10", "s", (b, a) -> b.symbolUses(a[0])),
        new Method("P11", "", (b, a) -> b.ruleCount()), new Method("P12", "r", (b, a) -> b.leftSize(a[0])),
        new Method("P13", "r", (b, a) -> b.rightSize(a[0])), new Method("P14", "r", (b, a) -> b.isLeftLinear(a[0])),
        new Method("P15", "r", (b, a) -> b.isCollapsing(a[0])), new Method("P16", "r", (b, a) -> b.isDuplicating(a[0])),
        new Method("P17", "r", (b, a) -> b.decreasesSize(a[0])), new Method("P18", "", (b, a) -> b.termCount()),
        new Method("P19", "t", (b, a) -> b.termSize(a[0])), new Method("P20", "t", (b, a) -> b.termDepth(a[0])),
        new Method("P21", "tp", (b, a) -> b.symbolAt(a[0], a[1])), new Method("P22", "tp", (b, a) -> b.variableAt(a[0], a[1])),
        new Method("P23", "tp", (b, a) -> b.subtermSize(a[0], a[1])), new Method("P24", "t", (b, a) -> b.isGround(a[0])),
        new Method("P25", "tt", (b, a) -> b.areEqual(a[0], a[1])), new Method("P26", "", (b, a) -> b.averageSize()),
        new Method("P27", "rtp", (b, a) -> b.matches(a[0], a[1], a[2])), new Method("P28", "tp", (b, a) -> b.ruleAt(a[0], a[1])),
        new Method("P29", "t", (b, a) -> b.redexCount(a[0])), new Method("P30", "t", (b, a) -> b.innermostRedex(a[0])),
        new Method("P31", "t", (b, a) -> b.outermostRedex(a[0])), new Method("P32", "t", (b, a) -> b.isNormalForm(a[0])),
        new Method("P33", "", (b, a) -> b.normalShare()), new Method("P34", "t", (b, a) -> b.stepsInnermost(a[0])),
        new Method("P35", "t", (b, a) -> b.stepsOutermost(a[0])), new Method("P36", "t", (b, a) -> b.normalFormSize(a[0])),
        new Method("P37", "tt", (b, a) -> b.haveSameNormalForm(a[0], a[1])),
        new Method("P38", "tt", (b, a) -> b.unify(a[0], a[1])), new Method("P39", "tt", (b, a) -> b.unifiedSize(a[0], a[1])),
        new Method("P40", "", (b, a) -> b.criticalPairCount()), new Method("P41", "c", (b, a) -> b.pairOuterRule(a[0])),
        new Method("P42", "c", (b, a) -> b.pairInnerRule(a[0])), new Method("P43", "c", (b, a) -> b.pairPosition(a[0])),
        new Method("P44", "c", (b, a) -> b.pairJoins(a[0])), new Method("P45", "", (b, a) -> b.unjoinedPairs()),
        new Method("P46", "t", (b, a) -> b.writeTerm(a[0])), new Method("P47", "r", (b, a) -> b.writeRule(a[0])),
        new Method("P48", "t", (b, a) -> b.writeNormalForm(a[0])), new Method("P49", "c", (b, a) -> b.writePair(a[0])),
        new Method("P51", "rtp", (b, a) -> b.rewrite(a[0], a[1], a[2])), new Method("P52", "t", (b, a) -> b.stepInnermost(a[0])),
        new Method("P53", "t", (b, a) -> b.stepOutermost(a[0])), new Method("P54", "t", (b, a) -> b.normalize(a[0])),
        new Method("P55", "tp", (b, a) -> b.copySubterm(a[0], a[1])),
        new Method("P56", "tpt", (b, a) -> b.replaceSubterm(a[0], a[1], a[2])),
        new Method("P57", "rr", (b, a) -> b.swapRules(a[0], a[1])), new Method("P58", "r", (b, a) -> b.removeRule(a[0])),
        new Method("P59", "r", (b, a) -> b.reverseRule(a[0])), new Method("P60", "t", (b, a) -> b.removeTerm(a[0])),
        new Method("P63", "l", (b, a) -> b.saveState(a[0])),
    };

    static List<Consumer<Doc>> parts() {
        return List.of(
                RefusalEdges::withoutSystem, RefusalEdges::theOthers, RefusalEdges::wrongIndices,
                RefusalEdges::notAllowed, RefusalEdges::severalExceptions, RefusalEdges::parsing);
    }

    /** A workbench with something in every part of it. */
    private static OverlapBench full() {
        OverlapBench bench = Check.load(SYMBOLS + "rule f(A)=g(A,A);rule a=b;rule f(a)=a;term f(b);term g(f(a),B);term b");
        bench.saveState(0);
        bench.copySubterm(0, 0);
        bench.removeTerm(3);
        bench.writeTerm(1);
        Check.parse(bench, "system;term c");
        bench.append(0, 0, 0, 0, 0);
        return bench;
    }

    private static int count(char kind) {
        return switch (kind) {
            case 's' -> 5;
            case 'p' -> 4;
            case 'l' -> 2;
            default -> 3;
        };
    }

    /** Arguments that no exception forbids, but for the changes that find nothing to do. */
    private static int[] allowed(String kinds) {
        int[] arguments = new int[kinds.length()];
        for (int i = 0; i < arguments.length; i++) {
            arguments[i] = kinds.charAt(i) == 't' || kinds.charAt(i) == 'p' ? 1 : 0;
        }
        return arguments;
    }

    /** All that the face shows of a workbench; it is used up by looking. */
    private static String look(OverlapBench bench) {
        StringBuilder text = new StringBuilder();
        text.append(bench.bufferLength()).append(' ').append(bench.parseErrorCode()).append(' ')
                .append(bench.parseErrorPosition()).append(' ').append(bench.undoCount()).append(' ');
        for (int i = 0; text.charAt(text.length() - 1) != '\n'; i++) {
            try {
                text.append((char) bench.outputByte(i));
            } catch (IndexOutOfBoundsException e) {
                text.append('\n');
            }
        }
        text.append(bench.symbolCount()).append(' ').append(system(bench));
        while (bench.undoCount() > 0) {
            bench.undo();
            text.append('\n').append(system(bench));
        }
        for (int slot = 0; slot < 2; slot++) {
            try {
                bench.restoreState(slot);
                text.append("\nslot ").append(slot).append(' ').append(system(bench));
            } catch (IllegalStateException e) {
                text.append("\nno slot ").append(slot);
            }
        }
        return text.toString();
    }

    /** The rules and the terms; of a long one the length and the bytes at both ends. */
    private static String system(OverlapBench bench) {
        StringBuilder text = new StringBuilder();
        for (int i = 0; i < bench.ruleCount(); i++) {
            text.append(ends(bench, bench.writeRule(i))).append(';');
        }
        for (int i = 0; i < bench.termCount(); i++) {
            text.append(ends(bench, bench.writeTerm(i))).append(';');
        }
        return text.toString();
    }

    private static String ends(OverlapBench bench, int length) {
        StringBuilder text = new StringBuilder();
        for (int i = 0; i < length; i++) {
            if (i < 16 || i >= length - 8) {
                text.append((char) bench.outputByte(i));
            }
        }
        return text.append(length).toString();
    }

    /** The exact exception on a fresh workbench, and no change by it. */
    private static void refuses(String what, Class<?> type, Supplier<OverlapBench> made, On call, int... arguments) {
        OverlapBench bench = made.get();
        Check.throwsExactly(what, type, () -> call.run(bench, arguments));
        Check.due(what + " changes nothing", look(bench), look(made.get()));
    }

    private static void withoutSystem(Doc doc) {
        for (Method each : METHODS) {
            doc.edge(each.promise, NO_SYSTEM);
            onNothing(each);
        }
        doc.edge("7", "throw IllegalStateException if no system has been loaded");
        Check.due("methods", METHODS.length, 64 - 10);
        for (Method each : METHODS) {
            onNothing(each);
        }
    }

    private static void onNothing(Method method) {
        OverlapBench none = new OverlapBench();
        int[] allowed = allowed(method.kinds);
        int[] wrong = allowed.clone();
        Arrays.fill(wrong, -1);
        Check.throwsExactly(method.promise + " on a new object", Check.ILLEGAL_STATE, () -> method.call.run(none, allowed));
        Check.throwsExactly(method.promise + " with wrong indices", Check.ILLEGAL_STATE, () -> method.call.run(none, wrong));
        Check.parse(none, "system;symbol a 0;term a;");
        Check.throwsExactly(method.promise + " after a refused text", Check.ILLEGAL_STATE, () -> method.call.run(none, allowed));
        Check.parse(none, "system;symbol a 0;term a");
        Object answer = answer(() -> method.call.run(none, new int[method.kinds.length()]));
        Check.due(method.promise + " after a valid text", answer == Check.ILLEGAL_STATE, false);
    }

    private static Object answer(Check.Call call) {
        try {
            return call.run();
        } catch (RuntimeException e) {
            return e.getClass();
        }
    }

    private static void theOthers(Doc doc) {
        doc.edge("7", "All methods except append, parseSystem, parseErrorCode");
        OverlapBench none = new OverlapBench();
        Check.due("undoCount", none.undoCount(), 0);
        Check.due("parseErrorCode", none.parseErrorCode(), 0);
        Check.due("parseErrorPosition", none.parseErrorPosition(), -1);
        Check.due("bufferLength", none.bufferLength(), 0);
        Check.throwsExactly("outputByte", Check.OUT_OF_BOUNDS, () -> none.outputByte(0));
        Check.throwsExactly("restoreState", Check.OUT_OF_BOUNDS, () -> none.restoreState(2));
        Check.due("append", none.append(0, 0, 0, 0, 0), 20);
        Check.throwsExactly("parseSystem", Check.ILLEGAL_ARGUMENT, () -> none.parseSystem(20));
    }

    private static void wrongIndices(Doc doc) {
        for (Method each : METHODS) {
            if (each.kinds.isEmpty()) {
                continue;
            }
            doc.edge(each.promise, NO_INDEX);
            for (int i = 0; i < each.kinds.length(); i++) {
                wrongIndex(each, i);
            }
        }
    }

    private static void wrongIndex(Method method, int index) {
        char kind = method.kinds.charAt(index);
        if (kind == 'x') {
            return;
        }
        int[] arguments = allowed(method.kinds);
        for (int wrong : new int[] {-1, count(kind), count(kind) + 1, Integer.MIN_VALUE, Integer.MAX_VALUE}) {
            arguments[index] = wrong;
            refuses(method.promise + ", argument " + index + " " + wrong, Check.OUT_OF_BOUNDS, RefusalEdges::full, method.call,
                    arguments);
        }
        for (int last : new int[] {0, count(kind) - 1}) {
            OverlapBench bench = full();
            arguments[index] = last;
            if (kind == 't' && method.kinds.indexOf('p') == index + 1) {
                arguments[index + 1] = 0;
            }
            Object answer = answer(() -> method.call.run(bench, arguments));
            Check.due(method.promise + ", argument " + index + " " + last, answer == Check.OUT_OF_BOUNDS, false);
        }
    }

    private static OverlapBench matching() {
        OverlapBench bench = Check.load(SYMBOLS + "rule f(A)=g(A,A);rule f(b)=b;rule b=b;rule a=f(a);term g(f(a),B);term h(A,B,C);"
                + "term b;term f(b)");
        bench.swapRules(0, 0);
        return bench;
    }

    private static OverlapBench six() {
        OverlapBench bench = Check.load(SYMBOLS + "rule f(A)=A;term f(a);term a;term a;term a;term a;term A");
        bench.stepInnermost(0);
        return bench;
    }

    /** Term 0 has 80 nodes. */
    private static OverlapBench eighty() {
        OverlapBench bench = TermEdges.longChain("", 80);
        bench.copySubterm(0, 78);
        bench.writeTerm(1);
        return bench;
    }

    private static OverlapBench rules() {
        OverlapBench bench = Check.load(SYMBOLS + "rule f(A)=A;rule f(H)=H;rule f(A)=a;rule h(A,B,C)=h(A,B,A);term a");
        bench.removeRule(0);
        return bench;
    }

    private static void notAllowed(Doc doc) {
        doc.edge("P51", NOT_ALLOWED);
        refuses("no match", Check.ILLEGAL_ARGUMENT, RefusalEdges::matching, (b, a) -> b.rewrite(1, 0, 1));
        refuses("no match at a variable", Check.ILLEGAL_ARGUMENT, RefusalEdges::matching, (b, a) -> b.rewrite(0, 0, 3));
        refuses("81 nodes", Check.ILLEGAL_ARGUMENT, StepEdges::growing, (b, a) -> b.rewrite(1, 1, 0));
        doc.edge("P52", NOT_ALLOWED);
        refuses("a normal form", Check.ILLEGAL_ARGUMENT, RefusalEdges::matching, (b, a) -> b.stepInnermost(1));
        refuses("81 nodes", Check.ILLEGAL_ARGUMENT, StepEdges::growing, (b, a) -> b.stepInnermost(1));
        doc.edge("P53", NOT_ALLOWED);
        refuses("a normal form", Check.ILLEGAL_ARGUMENT, RefusalEdges::matching, (b, a) -> b.stepOutermost(1));
        refuses("81 nodes", Check.ILLEGAL_ARGUMENT, StepEdges::growing, (b, a) -> b.stepOutermost(1));
        doc.edge("P54", NOT_ALLOWED);
        refuses("a loop", Check.ILLEGAL_ARGUMENT, RefusalEdges::matching, (b, a) -> b.normalize(2));
        refuses("growing without end", Check.ILLEGAL_ARGUMENT, RefusalEdges::matching, (b, a) -> b.normalize(0));
        refuses("81 nodes", Check.ILLEGAL_ARGUMENT, StepEdges::growing, (b, a) -> b.normalize(1));
        refuses("201 steps", Check.ILLEGAL_ARGUMENT, () -> StepEdges.counting(201), (b, a) -> b.normalize(0));
        doc.edge("P55", NOT_ALLOWED);
        refuses("a 7th term", Check.ILLEGAL_ARGUMENT, RefusalEdges::six, (b, a) -> b.copySubterm(0, 0));
        doc.edge("P56", NOT_ALLOWED);
        refuses("81 nodes", Check.ILLEGAL_ARGUMENT, RefusalEdges::eighty, (b, a) -> b.replaceSubterm(0, 79, 1));
        refuses("159 nodes", Check.ILLEGAL_ARGUMENT, RefusalEdges::eighty, (b, a) -> b.replaceSubterm(0, 79, 0));
        doc.edge("P59", NOT_ALLOWED);
        refuses("a variable", Check.ILLEGAL_ARGUMENT, RefusalEdges::rules, (b, a) -> b.reverseRule(0));
        refuses("a lost variable", Check.ILLEGAL_ARGUMENT, RefusalEdges::rules, (b, a) -> b.reverseRule(1));
        refuses("a lost variable of many", Check.ILLEGAL_ARGUMENT, RefusalEdges::rules, (b, a) -> b.reverseRule(2));
        doc.edge("7", "A call that throws an exception changes nothing");
        refuses("rewrite", Check.ILLEGAL_ARGUMENT, RefusalEdges::full, (b, a) -> b.rewrite(0, 0, 1));
        refuses("stepInnermost", Check.ILLEGAL_ARGUMENT, RefusalEdges::full, (b, a) -> b.stepInnermost(2));
        refuses("stepOutermost", Check.ILLEGAL_ARGUMENT, RefusalEdges::full, (b, a) -> b.stepOutermost(2));
        refuses("reverseRule", Check.ILLEGAL_ARGUMENT, RefusalEdges::rules, (b, a) -> b.reverseRule(0));
        refuses("restoreState", Check.ILLEGAL_STATE, RefusalEdges::full, (b, a) -> b.restoreState(1));
        refuses("restoreState(2)", Check.OUT_OF_BOUNDS, RefusalEdges::full, (b, a) -> b.restoreState(2));
        refuses("outputByte", Check.OUT_OF_BOUNDS, RefusalEdges::full, (b, a) -> b.outputByte(9));
        refuses("parseSystem(21)", Check.OUT_OF_BOUNDS, RefusalEdges::full, (b, a) -> b.parseSystem(21));
        refuses("undo", Check.ILLEGAL_STATE, () -> Check.load("system;term A"), (b, a) -> b.undo());
    }

    private static void severalExceptions(Doc doc) {
        doc.edge("7", "the exception that is listed first in its documentation is thrown");
        OverlapBench none = new OverlapBench();
        Check.throwsExactly("no system, no slot", Check.ILLEGAL_STATE, () -> none.saveState(2));
        Check.throwsExactly("no system, no symbol", Check.ILLEGAL_STATE, () -> none.symbolLetter(-1, -1));
        Check.throwsExactly("no system, no term", Check.ILLEGAL_STATE, () -> none.normalize(6));
        Check.throwsExactly("no slot, nothing saved", Check.OUT_OF_BOUNDS, () -> none.restoreState(2));
        Check.throwsExactly("no slot, nothing saved", Check.OUT_OF_BOUNDS, () -> none.restoreState(-1));
        Check.throwsExactly("a wrong length of no text", Check.OUT_OF_BOUNDS, () -> none.parseSystem(-1));
        refuses("a wrong length, a wrong text", Check.OUT_OF_BOUNDS, RefusalEdges::full, (b, a) -> b.parseSystem(-1));
        refuses("a wrong length, a wrong text", Check.OUT_OF_BOUNDS, RefusalEdges::full, (b, a) -> b.parseSystem(21));
        refuses("no rule, no step", Check.OUT_OF_BOUNDS, RefusalEdges::full, (b, a) -> b.rewrite(3, 2, 0));
        refuses("no term, no step", Check.OUT_OF_BOUNDS, RefusalEdges::full, (b, a) -> b.rewrite(2, 3, 0));
        refuses("no position, no step", Check.OUT_OF_BOUNDS, RefusalEdges::full, (b, a) -> b.rewrite(2, 2, 1));
        refuses("no term to step", Check.OUT_OF_BOUNDS, RefusalEdges::full, (b, a) -> b.stepInnermost(3));
        refuses("no term to step", Check.OUT_OF_BOUNDS, RefusalEdges::full, (b, a) -> b.stepOutermost(3));
        refuses("no position, 6 terms", Check.OUT_OF_BOUNDS, RefusalEdges::six, (b, a) -> b.copySubterm(5, 1));
        refuses("no term, 6 terms", Check.OUT_OF_BOUNDS, RefusalEdges::six, (b, a) -> b.copySubterm(6, 0));
        refuses("no position, 80 nodes", Check.OUT_OF_BOUNDS, RefusalEdges::eighty, (b, a) -> b.replaceSubterm(0, 80, 0));
        refuses("no term, 80 nodes", Check.OUT_OF_BOUNDS, RefusalEdges::eighty, (b, a) -> b.replaceSubterm(0, 79, 2));
        refuses("no other term", Check.OUT_OF_BOUNDS, RefusalEdges::eighty, (b, a) -> b.replaceSubterm(2, 79, 0));
    }

    private static void parsing(Doc doc) {
        doc.edge("P3", NO_INDEX);
        for (int length : new int[] {-1, 21, 500, 501, Integer.MIN_VALUE, Integer.MAX_VALUE}) {
            refuses("length " + length, Check.OUT_OF_BOUNDS, RefusalEdges::full, (b, a) -> b.parseSystem(length));
        }
        Check.throwsExactly("one byte of none", Check.OUT_OF_BOUNDS, () -> new OverlapBench().parseSystem(1));
        doc.edge("P3", "the buffer and the latest parse error stay unchanged");
        OverlapBench kept = new OverlapBench();
        Check.feed(kept, "system;term A");
        Check.throwsExactly("length 21 of 20", Check.OUT_OF_BOUNDS, () -> kept.parseSystem(21));
        Check.throwsExactly("length -1", Check.OUT_OF_BOUNDS, () -> kept.parseSystem(-1));
        Check.due("the buffer's length stays", kept.bufferLength(), 20);
        Check.due("no error", kept.parseErrorCode(), 0);
        Check.due("the buffer's bytes stay", kept.parseSystem(20), 0);
        Check.due("they are the text", kept.termCount(), 1);
        Check.parse(kept, "system;term a");
        Check.throwsExactly("length 1 of 0", Check.OUT_OF_BOUNDS, () -> kept.parseSystem(1));
        Check.due("the error stays", kept.parseErrorCode(), 3);
        Check.due("its position stays", kept.parseErrorPosition(), 12);
        doc.edge("P3", NOT_ALLOWED);
        String[] texts = {"", "system;", "system;symbol a 4", "system;term a", "system;rule A", TermEdges.EIGHT + ";symbol"};
        int[] codes = {1, 1, 2, 3, 4, 5};
        int[] positions = {0, 7, 16, 12, 12, TermEdges.EIGHT.length() + 1};
        for (int i = 0; i < texts.length; i++) {
            Check.due("text " + i, Check.parse(new OverlapBench(), texts[i]), Check.ILLEGAL_ARGUMENT);
        }
        doc.edge("P3", "the previous system stays unchanged");
        for (int i = 0; i < texts.length; i++) {
            OverlapBench bench = full();
            Check.throwsExactly("20 bytes of 0", Check.ILLEGAL_ARGUMENT, () -> bench.parseSystem(20));
            Check.due("text " + i, Check.parse(bench, texts[i]), Check.ILLEGAL_ARGUMENT);
            String head = "0 " + codes[i] + " " + positions[i] + " ";
            Check.due("text " + i + " changes no more", look(bench), look(full()).replaceFirst("20 3 12 ", head));
        }
        Check.due("the buffer of before", look(full()).startsWith("20 3 12 2 g(f(a),B)"), true);
    }
}
