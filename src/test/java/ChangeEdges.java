import java.util.ArrayList;
import java.util.List;
import java.util.function.Consumer;

/** Changes, undo and saved states at their edges: a part of section 7 and what the promises 55 to 64 answer. */
final class ChangeEdges {
    private static final String SYMBOLS = TermEdges.SYMBOLS;

    private ChangeEdges() {
    }

    static List<Consumer<Doc>> parts() {
        return List.of(
                ChangeEdges::eachChange, ChangeEdges::latestEight, ChangeEdges::rulesAndTermsAlone,
                ChangeEdges::copies, ChangeEdges::replacements, ChangeEdges::swaps, ChangeEdges::removedRules,
                ChangeEdges::reversed, ChangeEdges::removedTerms, ChangeEdges::undone, ChangeEdges::counted,
                ChangeEdges::saved, ChangeEdges::restored);
    }

    interface Change {
        void make(OverlapBench bench);
    }

    private static void eachChange(Doc doc) {
        String text = SYMBOLS + "rule a=a;rule f(A)=f(A);rule a=a;term f(a);term b;term f(a)";
        String before = "a=a;f(A)=f(A);a=a;f(a);b;f(a);";
        Change[] changes = {b -> b.rewrite(1, 0, 0), b -> b.stepInnermost(0), b -> b.stepOutermost(0), b -> b.normalize(1),
            b -> b.replaceSubterm(0, 0, 0), b -> b.replaceSubterm(0, 0, 2), b -> b.swapRules(1, 1), b -> b.swapRules(0, 2),
            b -> b.reverseRule(0), b -> b.reverseRule(1)};
        doc.edge("7", "can be undone, even if it changed nothing");
        for (int i = 0; i < changes.length; i++) {
            OverlapBench bench = Check.load(text);
            changes[i].make(bench);
            Check.due("change " + i + " counts", bench.undoCount(), 1);
            Check.due("though nothing is changed", Check.system(bench), before);
            Check.due("it can be undone", bench.undo(), 0);
            Check.due("to the same", Check.system(bench), before);
        }
        Change[] others = {b -> b.copySubterm(0, 0), b -> b.removeRule(2), b -> b.removeTerm(2), b -> b.copySubterm(0, 1),
            b -> b.removeRule(0), b -> b.removeTerm(0), b -> b.rewrite(1, 2, 0), b -> b.replaceSubterm(2, 1, 1)};
        for (int i = 0; i < others.length; i++) {
            OverlapBench bench = Check.load(text);
            others[i].make(bench);
            Check.due("other change " + i + " counts", bench.undoCount(), 1);
            Check.due("it can be undone", bench.undo(), 0);
            Check.due("all is as before", Check.system(bench), before);
        }
        doc.edge("constants", "each one can be undone");
        OverlapBench all = Check.load(text);
        List<String> states = new ArrayList<>();
        Change[] mixed = {b -> b.copySubterm(0, 1), b -> b.replaceSubterm(1, 0, 0), b -> b.removeRule(2), b -> b.removeTerm(2),
            b -> b.swapRules(0, 1), b -> b.replaceSubterm(2, 0, 1), b -> b.copySubterm(1, 0), b -> b.removeRule(1)};
        for (Change each : mixed) {
            states.add(state(all));
            each.make(all);
        }
        for (int i = mixed.length - 1; i >= 0; i--) {
            Check.due("changes left", all.undo(), i);
            Check.due("the state before change " + i, state(all), states.get(i));
        }
        OverlapBench saving = Check.load(text);
        saving.saveState(0);
        Check.due("saveState stands below undo()", saving.undoCount(), 0);
    }

    /** Few calls that tell a state: sizes and the symbols at the roots. */
    private static String state(OverlapBench bench) {
        StringBuilder text = new StringBuilder();
        for (int i = 0; i < bench.ruleCount(); i++) {
            text.append(bench.leftSize(i)).append('=').append(bench.rightSize(i)).append(' ');
        }
        for (int i = 0; i < bench.termCount(); i++) {
            text.append(bench.symbolAt(i, 0)).append(':').append(bench.termSize(i)).append(' ');
        }
        return text.toString();
    }

    private static void latestEight(Doc doc) {
        doc.edge("7", "At most the latest 8 changes since");
        for (int changes : new int[] {1, 7, 8, 9, 16, 17, 30}) {
            OverlapBench bench = Check.load(SYMBOLS + "rule f(A)=A;term " + TermEdges.chain(40, "a"));
            for (int i = 0; i < changes; i++) {
                bench.stepOutermost(0);
            }
            int kept = Math.min(changes, 8);
            Check.due("after " + changes, bench.undoCount(), kept);
            for (int i = 1; i <= kept; i++) {
                Check.due("left", bench.undo(), kept - i);
                Check.due("nodes", bench.termSize(0), 40 - changes + i);
            }
            Check.throwsExactly("an older one of " + changes, Check.ILLEGAL_STATE, bench::undo);
            Check.due("nodes stay", bench.termSize(0), 40 - changes + kept);
        }
        OverlapBench ring = Check.load(SYMBOLS + "rule f(A)=A;term " + TermEdges.chain(40, "a"));
        for (int round = 0; round < 5; round++) {
            for (int i = 0; i < 6; i++) {
                ring.stepOutermost(0);
            }
            ring.undo();
            ring.undo();
        }
        // 5 rounds of 4 lasting steps; the last 6 made the count 8 and two of them are undone
        Check.due("after the rounds", ring.termSize(0), 20);
        Check.due("six are left", ring.undoCount(), 6);
        for (int i = 5; i >= 0; i--) {
            Check.due("left of the rounds", ring.undo(), i);
            Check.due("nodes of the rounds", ring.termSize(0), 26 - i);
        }
        Check.throwsExactly("no more of the rounds", Check.ILLEGAL_STATE, ring::undo);
        ring.stepOutermost(0);
        ring.saveState(0);
        ring.stepOutermost(0);
        Check.due("before restoring", ring.undoCount(), 2);
        ring.restoreState(0);
        Check.due("none since restoring", ring.undoCount(), 0);
        Check.throwsExactly("none to undo", Check.ILLEGAL_STATE, ring::undo);
        ring.stepOutermost(0);
        Check.due("one since restoring", ring.undoCount(), 1);
        Check.parse(ring, "system;symbol a 0;term a");
        Check.due("none since parsing", ring.undoCount(), 0);
        ring.copySubterm(0, 0);
        Check.due("one since parsing", ring.undoCount(), 1);
        Check.parse(ring, "system;");
        Check.due("a refused text is no successful call", ring.undoCount(), 1);
    }

    private static void rulesAndTermsAlone(Doc doc) {
        doc.edge("7", "Undoing and restoring affect the rules and the terms alone");
        OverlapBench bench = Check.load(SYMBOLS + "rule a=b;term f(a);term B");
        bench.writeTerm(1);
        bench.saveState(0);
        bench.removeTerm(1);
        bench.saveState(1);
        bench.writeTerm(0);
        Check.parse(bench, "system;term c");
        bench.append(0, 0, 0, 0, 0);
        bench.undo();
        others(bench);
        Check.due("the change is undone", bench.termCount(), 2);
        Check.due("slot 1 is as it was", bench.restoreState(1), 1);
        others(bench);
        Check.due("slot 0 is as it was", bench.restoreState(0), 2);
        others(bench);
        Check.due("slot 1 is still as it was", bench.restoreState(1), 1);
        bench.swapRules(0, 0);
        bench.undo();
        others(bench);
    }

    private static void others(OverlapBench bench) {
        Check.due("the output stays", Check.output(bench, 4), "f(a)");
        Check.due("the buffer stays", bench.bufferLength(), 20);
        Check.due("the error stays", bench.parseErrorCode(), 3);
        Check.due("its position stays", bench.parseErrorPosition(), 12);
        Check.due("the symbols stay", bench.symbolCount(), 5);
        Check.due("their arities stay", bench.symbolArity(4), 3);
    }

    private static void copies(Doc doc) {
        doc.edge("P55", "Adds a copy of a subterm as the last term");
        doc.plain("P55", "index of a term", "position in the term");
        OverlapBench bench = Check.load(SYMBOLS + "term h(f(A),b,g(a,H));term B");
        bench.copySubterm(0, 6);
        Check.due("the last node", Check.system(bench), "h(f(A),b,g(a,H));B;H;");
        bench.copySubterm(0, 1);
        Check.due("a part", Check.term(bench, 3), "f(A)");
        bench.copySubterm(3, 0);
        bench.replaceSubterm(3, 0, 1);
        Check.due("a copy of a copy is its own", Check.term(bench, 4), "f(A)");
        doc.edge("P55", "Returns index of the new term");
        OverlapBench six = TermEdges.longChain("", 80);
        for (int i = 1; i < 6; i++) {
            Check.due("new term", six.copySubterm(i - 1, 0), i);
        }
        Check.due("80 nodes in the last", six.termSize(5), 80);
        six.removeTerm(2);
        Check.due("the last index again", six.copySubterm(0, 79), 5);
        Check.due("one node", six.termSize(5), 1);
    }

    private static void replacements(Doc doc) {
        doc.plain("P56", "Replaces the subterm of a term", "`term`: index", "position in the term");
        doc.edge("P56", "index of the term that is inserted, which may be the same");
        OverlapBench bench = Check.load(SYMBOLS + "term g(f(A),b);term f(B)");
        String[] due = {"g(f(A),b)", "g(g(f(A),b),b)", "g(f(g(f(A),b)),b)", "g(f(A),g(f(A),b))"};
        for (int p = 0; p < 4; p++) {
            bench.replaceSubterm(0, p, 0);
            Check.due("itself at " + p, Check.term(bench, 0), due[p]);
            bench.undo();
        }
        doc.edge("P56", "Returns the number of nodes of the term afterwards");
        int[] sizes = {2, 4, 5, 5};
        for (int p = 0; p < 4; p++) {
            Check.due("another at " + p, bench.replaceSubterm(0, p, 1), sizes[p]);
            Check.due("its size", bench.termSize(0), sizes[p]);
            bench.undo();
        }
        OverlapBench one = Check.load("system;term A;term H");
        Check.due("one node by one", one.replaceSubterm(0, 0, 1), 1);
        Check.due("is H", one.variableAt(0, 0), 7);
        OverlapBench forty = Check.load(SYMBOLS + "term " + TermEdges.chain(40, "A") + ";term f(f(a));term f(a)");
        Check.due("79", forty.replaceSubterm(0, 39, 0), 79);
        Check.throwsExactly("81", Check.ILLEGAL_ARGUMENT, () -> forty.replaceSubterm(0, 78, 1));
        Check.due("80", forty.replaceSubterm(0, 78, 2), 80);
        Check.throwsExactly("81 at the last node", Check.ILLEGAL_ARGUMENT, () -> forty.replaceSubterm(0, 79, 2));
        Check.throwsExactly("159", Check.ILLEGAL_ARGUMENT, () -> forty.replaceSubterm(0, 79, 0));
        Check.due("80 in place of 80", forty.replaceSubterm(0, 0, 0), 80);
        Check.due("80 in place of 3", forty.replaceSubterm(1, 0, 0), 80);
        Check.due("a small one in place of 80", forty.replaceSubterm(0, 0, 2), 2);
    }

    private static void swaps(Doc doc) {
        doc.plain("P57", "Exchanges two rules", "`rule`: index of a rule");
        doc.edge("P57", "index of a rule, which may be the same");
        OverlapBench bench = Check.load(SYMBOLS + "rule f(A)=a;rule b=a;rule f(A)=A;term f(b);term b;term a");
        String terms = "f(b);b;a;";
        Check.due("the same", bench.swapRules(2, 2), 3);
        Check.due("nothing is exchanged", Check.system(bench), "f(A)=a;b=a;f(A)=A;" + terms);
        bench.swapRules(0, 2);
        Check.due("first and last", Check.system(bench), "f(A)=A;b=a;f(A)=a;" + terms);
        bench.swapRules(1, 0);
        Check.due("later and earlier", Check.system(bench), "b=a;f(A)=A;f(A)=a;" + terms);
        doc.edge("P57", "Returns the number of redexes of all terms afterwards");
        Check.due("three redexes", bench.swapRules(0, 1), 3);
        bench.removeTerm(0);
        Check.due("one redex", bench.swapRules(0, 1), 1);
        bench.removeTerm(0);
        Check.due("no redex", bench.swapRules(0, 1), 0);
        bench.removeTerm(0);
        Check.due("no term", bench.swapRules(0, 1), 0);
        OverlapBench most = TermEdges.longChain("rule f(A)=A;rule a=b;", 80);
        for (int i = 0; i < 5; i++) {
            most.copySubterm(0, 0);
        }
        Check.due("six terms of 80", most.swapRules(0, 1), 480);
    }

    private static void removedRules(Doc doc) {
        doc.plain("P58", "Removes a rule.", "index of a rule");
        doc.edge("P58", "The indices of later rules become 1 less");
        String text = SYMBOLS + "rule a=b;rule f(A)=A;rule g(A,B)=B;term f(a)";
        String[] left = {"f(A)=A;g(A,B)=B;f(a);", "a=b;g(A,B)=B;f(a);", "a=b;f(A)=A;f(a);"};
        for (int i = 0; i < 3; i++) {
            OverlapBench bench = Check.load(text);
            bench.removeRule(i);
            Check.due("without rule " + i, Check.system(bench), left[i]);
            Check.throwsExactly("no rule 2", Check.OUT_OF_BOUNDS, () -> bench.leftSize(2));
        }
        doc.edge("P58", "Returns the number of rules afterwards");
        OverlapBench six = Check.load(SYMBOLS + Check.repeat("rule a=b;", 5) + "rule b=a");
        for (int i = 5; i >= 0; i--) {
            Check.due("rules left", six.removeRule(0), i);
        }
        Check.throwsExactly("none to remove", Check.OUT_OF_BOUNDS, () -> six.removeRule(0));
    }

    private static void reversed(Doc doc) {
        doc.plain("P59", "Exchanges the sides of a rule", "index of a rule");
        doc.edge("P59", "Returns the number of nodes of the new left side");
        String twelve = TermEdges.chain(12, "H");
        OverlapBench bench = Check.load(SYMBOLS + "rule a=b;rule f(H)=" + twelve + ";rule g(A,B)=h(B,A,B)");
        Check.due("one node", bench.reverseRule(0), 1);
        Check.due("12 nodes", bench.reverseRule(1), 12);
        Check.due("4 nodes", bench.reverseRule(2), 4);
        Check.due("all are reversed", Check.system(bench), "b=a;" + twelve + "=f(H);h(B,A,B)=g(A,B);");
        Check.due("2 nodes", bench.reverseRule(1), 2);
        doc.edge("P59", "if the right side is a variable, or a variable of the left side does not occur in the right side");
        OverlapBench refused = Check.load(SYMBOLS + "rule f(A)=A;rule f(H)=a;rule g(A,B)=f(A);rule g(A,B)=f(B);"
                + "rule h(A,H,A)=g(A,A);rule g(A,B)=g(B,A)");
        for (int i = 0; i < 5; i++) {
            int rule = i;
            Check.throwsExactly("rule " + i, Check.ILLEGAL_ARGUMENT, () -> refused.reverseRule(rule));
        }
        Check.due("no change", refused.undoCount(), 0);
        Check.due("all variables occur", refused.reverseRule(5), 3);
    }

    private static void removedTerms(Doc doc) {
        doc.plain("P60", "Removes a term.", "index of a term");
        doc.edge("P60", "The indices of later terms become 1 less");
        String text = SYMBOLS + "rule a=b;term A;term f(B);term g(a,C)";
        String[] left = {"a=b;f(B);g(a,C);", "a=b;A;g(a,C);", "a=b;A;f(B);"};
        for (int i = 0; i < 3; i++) {
            OverlapBench bench = Check.load(text);
            bench.removeTerm(i);
            Check.due("without term " + i, Check.system(bench), left[i]);
            Check.throwsExactly("no term 2", Check.OUT_OF_BOUNDS, () -> bench.termSize(2));
        }
        doc.edge("P60", "Returns the number of terms afterwards");
        OverlapBench six = Check.load(SYMBOLS + Check.repeat("term a;", 5) + "term A");
        for (int i = 5; i >= 0; i--) {
            Check.due("terms left", six.removeTerm(0), i);
        }
        Check.throwsExactly("none to remove", Check.OUT_OF_BOUNDS, () -> six.removeTerm(0));
    }

    private static void undone(Doc doc) {
        doc.edge("P61", "Undoes the latest change that has not been undone");
        OverlapBench bench = Check.load(SYMBOLS + "rule a=b;term A;term B;term C");
        bench.removeTerm(0);
        bench.removeTerm(0);
        bench.undo();
        Check.due("the second", Check.system(bench), "a=b;B;C;");
        bench.removeRule(0);
        bench.undo();
        Check.due("the third", Check.system(bench), "a=b;B;C;");
        bench.undo();
        Check.due("the first", Check.system(bench), "a=b;A;B;C;");
        doc.edge("P61", "Returns the number of changes that can still be undone");
        for (int i = 0; i < 9; i++) {
            bench.swapRules(0, 0);
        }
        for (int i = 7; i >= 0; i--) {
            Check.due("left", bench.undo(), i);
        }
        doc.edge("P61", "Throws `IllegalStateException` if there is nothing to undo");
        Check.throwsExactly("all are undone", Check.ILLEGAL_STATE, bench::undo);
        Check.throwsExactly("again", Check.ILLEGAL_STATE, bench::undo);
        Check.throwsExactly("a new system", Check.ILLEGAL_STATE, Check.load("system;term A")::undo);
        Check.throwsExactly("no system", Check.ILLEGAL_STATE, new OverlapBench()::undo);
        bench.copySubterm(0, 0);
        bench.saveState(1);
        bench.restoreState(1);
        Check.throwsExactly("restored", Check.ILLEGAL_STATE, bench::undo);
    }

    private static void counted(Doc doc) {
        doc.plain("P62", "Returns the number of changes that can be undone");
        doc.edge("P62", "Returns the number, 0 to 8");
        OverlapBench bench = new OverlapBench();
        Check.due("no system", bench.undoCount(), 0);
        Check.parse(bench, SYMBOLS + "rule a=b;term b");
        Check.due("a new system", bench.undoCount(), 0);
        for (int i = 1; i <= 10; i++) {
            bench.swapRules(0, 0);
            Check.due("after change " + i, bench.undoCount(), Math.min(i, 8));
        }
        Check.throwsExactly("a refused change", Check.ILLEGAL_ARGUMENT, () -> bench.rewrite(0, 0, 0));
        Check.due("is not counted", bench.undoCount(), 8);
        for (int i = 7; i >= 0; i--) {
            bench.undo();
            Check.due("after undoing", bench.undoCount(), i);
        }
    }

    private static void saved(Doc doc) {
        doc.plain("P63", "Saves the rules and the terms in a slot");
        doc.edge("P63", "A state that was saved there before is lost");
        OverlapBench bench = Check.load(SYMBOLS + "rule a=b;rule b=a;term A;term B");
        bench.saveState(0);
        bench.saveState(1);
        bench.removeTerm(0);
        bench.removeRule(0);
        bench.saveState(1);
        bench.restoreState(1);
        Check.due("the later state", Check.system(bench), "b=a;B;");
        bench.restoreState(0);
        Check.due("the other slot", Check.system(bench), "a=b;b=a;A;B;");
        bench.restoreState(1);
        Check.due("the later state again", Check.system(bench), "b=a;B;");
        doc.edge("P63", "index of the slot, 0 or 1");
        for (int slot : new int[] {-1, 2, 3, Integer.MIN_VALUE, Integer.MAX_VALUE}) {
            Check.throwsExactly("slot " + slot, Check.OUT_OF_BOUNDS, () -> bench.saveState(slot));
        }
        Check.due("slot 0", bench.saveState(0), 1);
        Check.due("slot 1", bench.saveState(1), 1);
        doc.edge("P63", "Returns the number of terms");
        bench.removeTerm(0);
        Check.due("no terms", bench.saveState(0), 0);
        Check.due("six terms", Check.load("system" + Check.repeat(";term A", 6)).saveState(1), 6);
    }

    private static void restored(Doc doc) {
        doc.plain("P64", "Restores the rules and the terms");
        doc.edge("P64", "They stay saved");
        OverlapBench bench = Check.load(SYMBOLS + "rule f(A)=A;rule a=b;term f(a);term B");
        bench.saveState(0);
        bench.removeTerm(1);
        bench.saveState(1);
        for (int i = 0; i < 3; i++) {
            Check.due("slot 0", bench.restoreState(0), 2);
            Check.due("the state of slot 0", Check.system(bench), "f(A)=A;a=b;f(a);B;");
            bench.normalize(0);
            bench.removeRule(0);
            Check.due("slot 1", bench.restoreState(1), 1);
            Check.due("the state of slot 1", state(bench), "2=1 1=1 2:2 ");
            bench.reverseRule(1);
            bench.stepInnermost(0);
        }
        doc.edge("P64", "The undo history is cleared");
        Check.due("there are changes", bench.undoCount(), 2);
        bench.restoreState(0);
        Check.due("and then none", bench.undoCount(), 0);
        Check.throwsExactly("nothing to undo", Check.ILLEGAL_STATE, bench::undo);
        doc.plain("P64", "index of the slot, 0 or 1");
        doc.edge("P64", "Throws `IndexOutOfBoundsException` if there is no such slot");
        for (int slot : new int[] {-1, 2, 3, Integer.MIN_VALUE, Integer.MAX_VALUE}) {
            Check.throwsExactly("slot " + slot, Check.OUT_OF_BOUNDS, () -> bench.restoreState(slot));
        }
        doc.edge("P64", "Returns the number of terms of the restored state");
        Check.due("two", bench.restoreState(0), 2);
        Check.due("one", bench.restoreState(1), 1);
        bench.removeTerm(0);
        bench.saveState(1);
        Check.due("two again", bench.restoreState(0), 2);
        Check.due("none", bench.restoreState(1), 0);
        OverlapBench six = Check.load("system" + Check.repeat(";term A", 6));
        six.saveState(0);
        Check.due("six", six.restoreState(0), 6);
        doc.edge("P64", "Throws `IllegalStateException` if no state is saved in the slot");
        Check.throwsExactly("slot 1 of it", Check.ILLEGAL_STATE, () -> six.restoreState(1));
        OverlapBench other = Check.load("system;term A");
        other.saveState(1);
        Check.throwsExactly("slot 0 of another", Check.ILLEGAL_STATE, () -> other.restoreState(0));
        Check.due("slot 1 of it", other.restoreState(1), 1);
        Check.parse(other, "system;term B");
        Check.throwsExactly("slot 1 of a new system", Check.ILLEGAL_STATE, () -> other.restoreState(1));
        Check.throwsExactly("no system", Check.ILLEGAL_STATE, () -> new OverlapBench().restoreState(0));
    }
}
