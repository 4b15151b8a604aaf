import java.util.List;
import java.util.function.Consumer;

/** Section 6 (input text): each sentence at its edges. The bar marks where an error is due, and is not part of the text. */
final class TextEdges {
    private static final String SYMBOLS = TermEdges.SYMBOLS;

    private TextEdges() {
    }

    static List<Consumer<Doc>> parts() {
        return List.of(
                TextEdges::tokens, TextEdges::words, TextEdges::spaces, TextEdges::grammar, TextEdges::symbols,
                TextEdges::applications, TextEdges::order, TextEdges::copies, TextEdges::flips, TextEdges::steps,
                TextEdges::firstError, TextEdges::smallestCode, TextEdges::syntaxErrors, TextEdges::textEnds,
                TextEdges::rangeErrors, TextEdges::nameErrors, TextEdges::ruleErrors, TextEdges::itemLimits,
                TextEdges::nodeLimits);
    }

    private static void tokens(Doc doc) {
        doc.edge("6", "The tokens are words");
        String signs = ";=,()";
        for (int value = 0; value < 256; value++) {
            char c = (char) value;
            boolean letter = c >= 'a' && c <= 'z';
            boolean token = letter || c >= 'A' && c <= 'H' || c >= '0' && c <= '9' || signs.indexOf(c) >= 0;
            if (!letter && c != ' ' && c != ';') {
                Check.refusedAt(1, "system" + c, 6);
            }
            if (!token && c != ' ') {
                Check.refusedAt(1, SYMBOLS + "term f(" + c + "A)", SYMBOLS.length() + 7);
                Check.refusedAt(1, SYMBOLS + "term A;copy " + c, SYMBOLS.length() + 12);
            }
        }
        Check.taken("system;symbol k 2;rule k(A,B)=A;term k(H,A)", "k(A,B)=A;k(H,A);");
        for (char c = 'a'; c <= 'z'; c++) {
            Check.taken("system;symbol " + c + " 0;term " + c, c + ";");
        }
        for (char c = 'A'; c <= 'H'; c++) {
            Check.taken("system;term " + c, c + ";");
        }
    }

    private static void words(Doc doc) {
        doc.edge("6", "A word is a maximal run of the letters a to z");
        Check.refused(1, "|systemsymbol a 0");
        Check.refused(1, "system;|symbola 0");
        Check.refused(1, "system;symbol a 0;symbol aa 1;|termaa");
        Check.taken("system;symbol a 0;symbol aa 1;term aa(a)", "aa(a);");
        Check.taken("system;symbol a0;symbol b1;rule b(A)=A;term b(a);copy0", "b(A)=A;b(a);b(a);");
        Check.taken("system;symbol a 0;termA;term a", "A;a;");
        doc.edge("6", "it has at most 6 letters");
        Check.taken("system;symbol abcdef 0;term abcdef", "abcdef;");
        Check.refused(1, "system;symbol |abcdefg 0");
        Check.refused(1, "system;symbol abcdef 0;term |abcdefa");
        Check.refused(1, "system;symbol abcdef 0;term |abcdefabcdef");
        Check.refused(1, "system;|systems");
        Check.refused(1, "|systems;");
        doc.edge("6", "A variable is one letter A to H");
        Check.taken(SYMBOLS + "term g(A,H)", "g(A,H);");
        Check.refused(1, SYMBOLS + "term A|A");
        Check.refused(1, SYMBOLS + "term |I");
        Check.refused(1, SYMBOLS + "term |@");
        Check.refused(1, SYMBOLS + "term A|a");
        Check.refused(1, "system;symbol a 0|0");
        Check.refused(1, "system;symbol a |/");
        Check.refused(1, "system;symbol a |:");
        Check.refused(2, "system;symbol a |9");
        Check.refused(1, SYMBOLS + "term a;copy 0|1");
    }

    private static void spaces(Doc doc) {
        doc.edge("6", "Spaces (byte 32) may stand between tokens");
        Check.taken(" system  ; symbol   f 2 ;rule f ( A , B ) = A;  term f(  A,A  )  ;copy   0  ", "f(A,B)=A;f(A,A);f(A,A);");
        Check.taken("system;symbol f2;symbol a0;rule f(A,a)=A;term f(A,a);step0;copy0", "f(A,a)=A;A;A;");
        Check.taken(Check.repeat(" ", 400) + "system" + Check.repeat(" ", 94), "");
        Check.refused(1, "|sys tem");
        Check.refused(1, "system;|sym bol a 0");
        Check.refused(3, "system;symbol ab 0;term |a b");
        Check.refused(1, "system;symbol a 0;term a |b");
        for (int sign : new int[] {0, 9, 10, 13, 31, 33, 160}) {
            Check.refused(1, "system;symbol a|" + (char) sign + "0");
        }
    }

    private static void grammar(Doc doc) {
        doc.edge("6", "text = \"system\"");
        Check.taken("system", "");
        Check.taken("system;symbol a 0", "");
        Check.taken("system;term A;symbol f 1;rule f(A)=f(A);term f(B);copy 1;flip 0;step 2;symbol b 0;term b",
                "f(A)=f(A);A;f(B);f(B);b;");
        String[] others = {"system", "a", "A", "0", ";", "=", ",", "(", ")"};
        for (String other : others) {
            Check.refused(1, SYMBOLS + "|" + other);
        }
        for (String keyword : new String[] {"symbol", "rule", "term", "copy", "flip", "step", "system"}) {
            for (int i = 0; i < keyword.length(); i++) {
                String other = keyword.substring(0, i) + (keyword.charAt(i) == 'x' ? 'y' : 'x') + keyword.substring(i + 1);
                Check.refused(1, keyword.equals("system") ? "|" + other : SYMBOLS + "rule a=a;term a;|" + other + " 0");
                Check.refused(1, keyword.equals("system") ? "|" + keyword.substring(0, i) : SYMBOLS + "|" + keyword.substring(0, i));
            }
        }
        Check.refused(1, "|;system");
        Check.refused(1, "|symbol a 0");
        Check.refused(1, "system |system");
        Check.refused(1, "system;symbol a 0 |symbol b 0");
        Check.refused(1, "system;symbol a 0;|;symbol b 0");
        Check.refused(1, "system;symbol a 0;|");
        Check.refused(1, SYMBOLS + "rule a|;rule b=a");
        Check.refused(1, SYMBOLS + "rule a=a|=a");
        Check.refused(1, SYMBOLS + "rule a|,b");
        Check.refused(1, SYMBOLS + "rule a |a");
        Check.refused(1, SYMBOLS + "rule |=a");
        Check.refused(1, SYMBOLS + "rule a=|;");
        Check.refused(1, SYMBOLS + "term a|=a");
        Check.refused(1, SYMBOLS + "term |;");
        Check.refused(1, SYMBOLS + "term a;copy |a");
        Check.refused(1, SYMBOLS + "rule a=a;flip |A");
        Check.refused(1, SYMBOLS + "term a;step |;");
        Check.refused(1, SYMBOLS + "term f|=");
        Check.refused(1, SYMBOLS + "term f(|(a))");
        Check.refused(1, SYMBOLS + "term |(a)");
        Check.refused(1, SYMBOLS + "term f(a)|(a)");
        Check.refused(1, SYMBOLS + "term g(a|;a)");
        Check.refused(1, SYMBOLS + "term g(a|=a)");
        Check.refused(1, SYMBOLS + "term g(a |a)");
    }

    private static void symbols(Doc doc) {
        doc.edge("6", "The arity is a digit from 0 to 3");
        for (int arity = 0; arity <= 3; arity++) {
            Check.due("arity", Check.load("system;symbol a " + arity).symbolArity(0), arity);
        }
        for (int arity = 4; arity <= 9; arity++) {
            Check.refused(2, "system;symbol a |" + arity);
        }
        doc.edge("6", "A name behind \"symbol\" is a word");
        Check.refused(1, "system;symbol |A 0");
        Check.refused(1, "system;symbol |0 0");
        Check.refused(1, "system;symbol |;");
        Check.refused(3, "system;symbol a 0;symbol |a 0");
        Check.taken("system;symbol a 0;symbol aa 0;term aa", "aa;");
        doc.edge("6", "the keywords are allowed, too");
        String[] keywords = {"system", "symbol", "rule", "term", "copy", "flip", "step"};
        StringBuilder all = new StringBuilder("system");
        for (String each : keywords) {
            all.append(";symbol ").append(each).append(each.equals("rule") ? " 1" : " 0");
            Check.taken("system;symbol " + each + " 1;term " + each + "(A)", each + "(A);");
            Check.refused(3, "system;term |" + each);
        }
        Check.taken(all + ";rule rule(A)=copy;term rule(rule(term));copy 0;step 0", "rule(A)=copy;rule(copy);rule(rule(term));");
    }

    private static void applications(Doc doc) {
        doc.edge("6", "followed by brackets with as many terms as its arity");
        Check.taken(SYMBOLS + "term f(a);term g(a,a);term h(a,a,a)", "f(a);g(a,a);h(a,a,a);");
        Check.refused(3, SYMBOLS + "term |c");
        Check.refused(1, SYMBOLS + "term f |a");
        Check.refused(1, SYMBOLS + "term f(|)");
        Check.refused(1, SYMBOLS + "term f(a|,a)");
        Check.refused(1, SYMBOLS + "term g(a|)");
        Check.refused(1, SYMBOLS + "term g(a,|)");
        Check.refused(1, SYMBOLS + "term g(a,a|,a)");
        Check.refused(1, SYMBOLS + "term h(a,a|)");
        Check.refused(1, SYMBOLS + "term h(a,a,a|,a)");
        Check.refused(1, SYMBOLS + "term h(a,g(a|),a)");
        Check.refused(1, SYMBOLS + "term h(g(a,a|,a),a)");
        Check.refused(1, SYMBOLS + "term f(a)|)");
        doc.edge("6", "a symbol with the arity 0 has no brackets");
        Check.taken(SYMBOLS + "term a;rule a=b", "a=b;a;");
        Check.refused(1, SYMBOLS + "term a|()");
        Check.refused(1, SYMBOLS + "term a|(a)");
        Check.refused(1, SYMBOLS + "term f(a|(a))");
        Check.refused(1, SYMBOLS + "rule a|()=a");
        Check.refused(1, SYMBOLS + "rule b=a|()");
    }

    private static void order(Doc doc) {
        doc.edge("6", "The items take effect in their order");
        Check.refused(3, "system;term |a;symbol a 0");
        Check.refused(2, SYMBOLS + "copy |0;term a");
        Check.refused(2, SYMBOLS + "flip |0;rule a=b");
        Check.refused(4, SYMBOLS + "term a;step |0;rule a=b");
        Check.taken(SYMBOLS + "term f(a);copy 0;rule a=b;step 0;copy 0;rule f(A)=A;step 1;step 2;flip 0;step 2",
                "b=a;f(A)=A;f(b);f(b);a;");
    }

    private static void copies(Doc doc) {
        doc.edge("6", "adds a copy of the term with the given index as the last term");
        Check.taken(SYMBOLS + "term A;term B;term C;term D;term E;copy 4", "A;B;C;D;E;E;");
        Check.taken(SYMBOLS + "term A;term B;term C;term D;term E;copy 0", "A;B;C;D;E;A;");
        Check.taken(SYMBOLS + "rule b=a;term f(b);copy 0;step 0", "b=a;f(a);f(b);");
        Check.taken(SYMBOLS + "rule b=a;term f(b);copy 0;step 1", "b=a;f(b);f(a);");
        // A copy may have more nodes than a term of "term".
        OverlapBench bench = Check.load(grown(39) + ";step 0;copy 0");
        Check.due("a copy of 80 nodes", bench.termSize(1), 80);
        Check.due("is the same", bench.areEqual(0, 1), true);
    }

    private static void flips(Doc doc) {
        doc.edge("6", "does what reverseRule() does");
        Check.taken(SYMBOLS + "rule f(A)=g(A,a);rule a=b;flip 1", "f(A)=g(A,a);b=a;");
        Check.taken(SYMBOLS + "rule f(A)=g(A,a);rule a=b;flip 0;flip 0;flip 0", "g(A,a)=f(A);a=b;");
        Check.taken(SYMBOLS + Check.repeat("rule a=b;", 6) + "flip 5;flip 0", "b=a;a=b;a=b;a=b;a=b;b=a;");
        OverlapBench bench = Check.load(SYMBOLS + "rule a=f(b);flip 0;term f(b)");
        Check.due("the new left side counts", bench.ruleAt(0, 0), 0);
        Check.due("and is no change to undo", bench.undoCount(), 0);
    }

    private static void steps(Doc doc) {
        doc.edge("6", "does what stepInnermost() does");
        Check.taken(SYMBOLS + "rule f(A)=A;rule f(b)=a;term f(f(f(b)));step 0", "f(A)=A;f(b)=a;f(f(b));");
        Check.taken(SYMBOLS + "rule f(A)=b;rule b=a;term g(f(b),f(a));step 0;step 0;step 0", "f(A)=b;b=a;g(a,f(a));");
        Check.taken(SYMBOLS + "rule b=a;term a;term a;term a;term a;term a;term b;step 5", "b=a;a;a;a;a;a;a;");
        OverlapBench bench = Check.load(grown(39) + ";step 0");
        Check.due("a step to 80 nodes", bench.termSize(0), 80);
        Check.due("is no change to undo", bench.undoCount(), 0);
    }

    /** Term 0 has one step, which doubles a chain of so many nodes and adds two. */
    private static String grown(int nodes) {
        return "system;symbol a 0;symbol f 1;symbol g 2;symbol k 1;rule k(A)=f(g(A,A));term k(" + TermEdges.chain(nodes, "a")
                + ")";
    }

    private static void firstError(Doc doc) {
        doc.edge("6", "Parsing stops at the first token that has an error");
        Check.refused(1, "system;symbol a |b;symbol c 9;term d;rule A=A");
        Check.refused(2, "system;symbol c |9;symbol a b;term d;rule A=A");
        Check.refused(3, "system;term |d;symbol c 9;symbol a b;rule A=A");
        Check.refused(4, "system;rule |A=A;term d;symbol c 9;symbol a b");
        Check.refused(1, "|!system;symbol c 9");
        Check.refused(4, SYMBOLS + "rule f(A)=g(|B,c)");
        Check.refused(3, SYMBOLS + "rule f(A)=g(|c,B)");
    }

    private static void smallestCode(Doc doc) {
        doc.edge("6", "the error with the smallest code is reported");
        String left = "rule " + Check.repeat("f(", 12);
        String right = "rule f(A)=" + Check.repeat("f(", 12);
        String term = "term " + Check.repeat("f(", 40);
        for (String start : new String[] {left, right, term}) {
            Check.refused(1, SYMBOLS + start + "|abcdefg");
            Check.refused(1, SYMBOLS + start + "|)");
            Check.refused(1, SYMBOLS + start + "|I");
            Check.refused(1, SYMBOLS + start + "|");
            Check.refused(3, SYMBOLS + start + "|c");
            Check.refused(5, SYMBOLS + start + "|A");
            Check.refused(5, SYMBOLS + start + "|a");
            Check.refused(5, SYMBOLS + start + "|f");
        }
        Check.refused(4, SYMBOLS + right + "|B");
        Check.refused(1, "system;symbol a 0;symbol |abcdefg 9");
        Check.refused(2, SYMBOLS + "rule a=b;flip |1");
        Check.refused(2, SYMBOLS + "term a;step |1");
    }

    private static void syntaxErrors(Doc doc) {
        doc.edge("6", "SYNTAX_ERROR: a byte that starts no token");
        Check.refused(1, "system;symbol a 0;|#");
        Check.refused(1, "system;symbol a|-0");
        Check.refused(1, "system;symbol a 0;term a|.");
        Check.refused(1, "system;symbol a 0;term |" + (char) 225);
        Check.refused(1, "system;symbol a 0;term |" + (char) 193);
        Check.refused(1, "system;symbol a 0;term |" + (char) 160 + "a");
        Check.refused(1, "system;symbol a 0;term |abcdefg");
        Check.refused(1, "system;|abcdefg");
        Check.refused(1, "system;symbol a 0;rule a=|abcdefg");
        Check.refused(1, "system;symbol a 0;rule a |abcdefg");
        Check.refused(1, "system;symbol a 0|bcdefg");
        Check.refused(1, SYMBOLS + "term g(a|)");
        Check.refused(1, SYMBOLS + "term f(a|,a)");
        Check.refused(1, SYMBOLS + "term h(a,a|)");
        Check.refused(1, SYMBOLS + "term g(a,a|,a)");
        Check.refused(1, SYMBOLS + "term f(f(a|,a))");
        Check.refused(1, SYMBOLS + "rule g(a|)=a");
        Check.refused(1, SYMBOLS + "rule a=f(a|,a)");
        Check.refused(1, SYMBOLS + "term A|,A");
        Check.refused(1, SYMBOLS + "term A|)");
    }

    private static void textEnds(Doc doc) {
        doc.edge("6", "or the end of the text where more is needed");
        String[] tokens = {"system", ";", "symbol", "f", "1", ";", "symbol", "a", "0", ";", "rule", "f", "(", "A", ")", "=",
            "f", "(", "A", ")", ";", "term", "f", "(", "f", "(", "a", ")", ")", ";", "copy", "0", ";", "flip", "0", ";", "step",
            "0"};
        String text = "";
        for (String token : tokens) {
            if (token.equals(";")) {
                Check.due("whole: " + text, Check.load(text).parseErrorCode(), 0);
                Check.due("whole, with spaces: " + text, Check.load(text + "  ").parseErrorCode(), 0);
            } else {
                Check.refused(1, text + "|");
                Check.refused(1, text + "  |");
            }
            text += token + " ";
        }
        Check.due("whole: " + text, Check.load(text).termCount(), 2);
        Check.refused(1, SYMBOLS + "term h(a,|");
        Check.refused(1, SYMBOLS + "term h(a,b|");
        Check.refused(1, SYMBOLS + "term h(a,b,b|");
    }

    private static void rangeErrors(Doc doc) {
        doc.edge("6", "RANGE_ERROR: an arity greater than 3");
        Check.taken("system;symbol a 3;term a(A,A,A)", "a(A,A,A);");
        Check.refused(2, "system;symbol a |4");
        Check.refused(2, "system;symbol a|9");
        doc.edge("6", "a digit that is not the index of a term or rule");
        String terms = SYMBOLS + "rule f(A)=f(A);term f(a);term f(b)";
        Check.taken(terms + ";copy 1;step 1;flip 0", "f(A)=f(A);f(a);f(b);f(b);");
        Check.refused(2, SYMBOLS + "copy |0");
        Check.refused(2, SYMBOLS + "flip |0");
        Check.refused(2, SYMBOLS + "step |0");
        Check.refused(2, terms + ";copy |2");
        Check.refused(2, terms + ";step |2");
        Check.refused(2, terms + ";flip |1");
        Check.refused(2, terms + ";copy |9");
        String six = "system;symbol a 0" + Check.repeat(";rule a=a", 6) + Check.repeat(";term a", 6);
        Check.taken(six + ";step 5;flip 5", Check.repeat("a=a;", 6) + Check.repeat("a;", 6));
        Check.refused(2, six + ";step |6");
        Check.refused(2, six + ";flip |6");
        Check.refused(2, six + ";flip |9");
    }

    private static void nameErrors(Doc doc) {
        doc.edge("6", "NAME_ERROR: a name that another symbol has");
        Check.refused(3, "system;symbol ab 0;symbol |ab 1");
        Check.refused(3, "system;symbol ab 0;symbol |ab");
        Check.refused(3, TermEdges.EIGHT.replace(";symbol h 3", "") + ";symbol |a 0");
        Check.refused(3, TermEdges.EIGHT.replace(";symbol h 3", "") + ";symbol |g 0");
        Check.refused(3, "system;symbol abcdef 0;symbol |abcdef 0");
        Check.taken("system;symbol ab 0;symbol aba 0;symbol a 0;symbol ba 0;symbol bb 0;term ba", "ba;");
        doc.edge("6", "a name in a term that no symbol has");
        Check.refused(3, "system;term |a");
        Check.refused(3, SYMBOLS + "term |ab");
        Check.refused(3, SYMBOLS + "term h(a,b,|c)");
        Check.refused(3, SYMBOLS + "rule |c=a");
        Check.refused(3, SYMBOLS + "rule a=|c");
        Check.refused(3, "system;symbol ab 0;term |a");
        Check.refused(3, "system;symbol abcdef 0;term |abcdeg");
        Check.refused(3, "system;symbol a 0;term |term");
    }

    private static void ruleErrors(Doc doc) {
        doc.edge("6", "RULE_ERROR: a variable that is the left side of a rule");
        Check.refused(4, SYMBOLS + "rule |A=A");
        Check.refused(4, SYMBOLS + "rule |H=a");
        Check.refused(4, SYMBOLS + "rule |A");
        Check.refused(4, SYMBOLS + "rule |A(a)=a");
        Check.taken(SYMBOLS + "rule f(A)=a;term A", "f(A)=a;A;");
        doc.edge("6", "a variable in the right side of a rule that does not occur in the left side");
        Check.refused(4, SYMBOLS + "rule a=|A");
        Check.refused(4, SYMBOLS + "rule f(H)=|G");
        Check.refused(4, SYMBOLS + "rule g(A,B)=h(A,B,|C)");
        Check.refused(4, SYMBOLS + "rule f(A)=A;rule f(B)=|A");
        Check.taken(SYMBOLS + "rule g(A,H)=h(H,A,H)", "g(A,H)=h(H,A,H);");
        doc.edge("6", "the digit of \"flip\" or \"step\" if the method would throw");
        Check.refused(4, SYMBOLS + "rule f(A)=A;flip |0");
        Check.refused(4, SYMBOLS + "rule f(A)=a;flip |0");
        Check.refused(4, SYMBOLS + "rule g(A,B)=f(A);flip |0");
        Check.refused(4, SYMBOLS + "rule a=b;rule g(A,B)=f(B);flip |1");
        Check.refused(4, SYMBOLS + "term f(a);step |0");
        Check.refused(4, SYMBOLS + "rule b=a;term b;term A;step |1");
        Check.refused(4, SYMBOLS + "rule b=a;term b;step 0;step |0");
        String over = grown(39).replace("f(g(A,A))", "f(f(g(A,A)))");
        Check.refused(4, over + ";step |0");
        Check.due("80 nodes are not too many", Check.load(grown(39) + ";step 0").termSize(0), 80);
    }

    private static void itemLimits(Doc doc) {
        doc.edge("6", "LIMIT_ERROR: the word \"symbol\" of a 9th symbol");
        Check.due("8 symbols", Check.load(TermEdges.EIGHT).symbolCount(), 8);
        Check.refused(5, TermEdges.EIGHT + ";|symbol i 0");
        Check.refused(5, TermEdges.EIGHT + ";|symbol");
        Check.refused(5, TermEdges.EIGHT + ";|symbol a 9");
        String rules = "system;symbol a 0" + Check.repeat(";rule a=a", 6);
        Check.due("6 rules", Check.load(rules).ruleCount(), 6);
        Check.refused(5, rules + ";|rule a=a");
        Check.refused(5, rules + ";|rule");
        Check.refused(5, rules + ";|rule A=A");
        String terms = "system;symbol a 0" + Check.repeat(";term a", 6);
        Check.due("6 terms", Check.load(terms).termCount(), 6);
        Check.refused(5, terms + ";|term a");
        Check.refused(5, terms + ";|term");
        Check.refused(5, terms + ";|copy 0");
        Check.refused(5, terms + ";|copy");
        Check.refused(5, terms + ";|copy 9");
        Check.refused(5, "system;term A" + Check.repeat(";copy 0", 5) + ";|copy 0");
        Check.refused(5, "system;term A" + Check.repeat(";copy 0", 5) + ";|term A");
        Check.taken("system;symbol a 0" + Check.repeat(";rule a=a", 6) + Check.repeat(";term a", 6) + ";symbol b 0;flip 5;step 5",
                Check.repeat("a=a;", 6) + Check.repeat("a;", 6));
    }

    private static void nodeLimits(Doc doc) {
        doc.plain("6", "The grammar is:");
        doc.edge("6", "the first token of the 13th node of a side of a rule");
        String twelve = TermEdges.chain(12, "a");
        Check.taken(SYMBOLS + "rule " + twelve + "=" + twelve, twelve + "=" + twelve + ";");
        Check.taken(SYMBOLS + "rule " + TermEdges.chain(12, "A") + "=" + TermEdges.chain(12, "A"),
                TermEdges.chain(12, "A") + "=" + TermEdges.chain(12, "A") + ";");
        for (String last : new String[] {"a", "A", "f", "f(", "h(a,a,a)", "a)))", "A;", "a(a)"}) {
            Check.refused(5, SYMBOLS + "rule " + Check.repeat("f(", 12) + "|" + last);
            Check.refused(5, SYMBOLS + "rule f(A)=" + Check.repeat("f(", 12) + "|" + last);
            Check.refused(5, SYMBOLS + "term " + Check.repeat("f(", 40) + "|" + last);
        }
        String wide = "h(h(a,a,a),h(a,a,a),g(a,a))";
        Check.taken(SYMBOLS + "rule " + wide + "=" + wide, wide + "=" + wide + ";");
        Check.refused(5, SYMBOLS + "rule h(h(a,a,a),h(a,a,a),h(a,a,|a))=a");
        Check.refused(5, SYMBOLS + "rule a=h(h(a,a,a),h(a,a,a),h(a,a,|a))");
        String forty = TermEdges.chain(40, "a");
        Check.taken(SYMBOLS + "term " + forty, forty + ";");
        String thirteen = "h(h(a,a,a),h(a,a,a),h(a,a,a))";
        Check.taken(SYMBOLS + "term h(" + thirteen + "," + thirteen + ",h(h(a,a,a),h(a,a,a),h(a,a,a)))",
                "h(" + thirteen + "," + thirteen + "," + thirteen + ");");
        Check.refused(5, SYMBOLS + "term h(" + thirteen + "," + thirteen + ",h(h(a,a,a),h(a,a,a),h(a,a,f(|a))))");
    }
}
