import java.util.ArrayDeque;
import java.util.ArrayList;
import java.util.Arrays;
import java.util.Deque;
import java.util.HashMap;
import java.util.HashSet;
import java.util.LinkedHashMap;
import java.util.List;
import java.util.Map;
import java.util.Set;

/** The document once more, in the plainest Java with the whole library: trees, maps and recursion. */
final class Model {
    /** A term: a variable (no name of a symbol) or a symbol with its arguments. */
    record Tree(String name, boolean variable, List<Tree> parts) {
        static Tree variable(String name) {
            return new Tree(name, true, List.of());
        }

        int size() {
            int size = 1;
            for (Tree part : parts) {
                size += part.size();
            }
            return size;
        }

        int depth() {
            int depth = 0;
            for (Tree part : parts) {
                depth = Math.max(depth, part.depth());
            }
            return depth + 1;
        }

        Tree at(int position) {
            if (position == 0) {
                return this;
            }
            int left = position - 1;
            for (Tree part : parts) {
                if (left < part.size()) {
                    return part.at(left);
                }
                left -= part.size();
            }
            throw new AssertionError();
        }

        Tree with(int position, Tree other) {
            if (position == 0) {
                return other;
            }
            List<Tree> changed = new ArrayList<>();
            int left = position - 1;
            for (Tree part : parts) {
                changed.add(left >= 0 && left < part.size() ? part.with(left, other) : part);
                left -= part.size();
            }
            return new Tree(name, variable, changed);
        }

        void countVariables(Map<String, Integer> counts) {
            if (variable) {
                counts.merge(name, 1, Integer::sum);
            }
            for (Tree part : parts) {
                part.countVariables(counts);
            }
        }

        Tree renamed(String suffix) {
            List<Tree> changed = new ArrayList<>();
            for (Tree part : parts) {
                changed.add(part.renamed(suffix));
            }
            return new Tree(variable ? name + suffix : name, variable, changed);
        }

        Tree replaced(Map<String, Tree> by) {
            if (variable) {
                return by.getOrDefault(name, this);
            }
            List<Tree> changed = new ArrayList<>();
            for (Tree part : parts) {
                changed.add(part.replaced(by));
            }
            return new Tree(name, false, changed);
        }

        String text() {
            StringBuilder text = new StringBuilder(name);
            for (int i = 0; i < parts.size(); i++) {
                text.append(i == 0 ? '(' : ',').append(parts.get(i).text());
            }
            return parts.isEmpty() ? name : text.append(')').toString();
        }

        void postorder(int position, List<Integer> order) {
            int next = position + 1;
            for (Tree part : parts) {
                part.postorder(next, order);
                next += part.size();
            }
            order.add(position);
        }
    }

    record TwoSides(Tree left, Tree right) {
        boolean canTurn() {
            return !right.variable() && variables(right).keySet().containsAll(variables(left).keySet());
        }

        String text() {
            return left.text() + "=" + right.text();
        }
    }

    record Snapshot(List<TwoSides> rules, List<Tree> terms) {
        static Snapshot of(Model model) {
            return new Snapshot(List.copyOf(model.rules), List.copyOf(model.terms));
        }
    }

    record Pair(int outer, int inner, int position, Tree first, Tree second) {
    }

    /** A found error of a text. */
    static final class Fault extends RuntimeException {
        private static final long serialVersionUID = 1;
        final int code;
        final int position;

        Fault(int code, int position) {
            this.code = code;
            this.position = position;
        }
    }

    boolean loaded = false;
    Map<String, Integer> symbols = new LinkedHashMap<>();
    List<TwoSides> rules = new ArrayList<>();
    List<Tree> terms = new ArrayList<>();
    final Deque<Snapshot> undo = new ArrayDeque<>();
    final Snapshot[] saved = new Snapshot[2];
    String output = "";
    int errorCode = 0;
    int errorPosition = -1;

    static Map<String, Integer> variables(Tree tree) {
        Map<String, Integer> counts = new HashMap<>();
        tree.countVariables(counts);
        return counts;
    }

    // ---- what the calls ask

    String symbol(int index) {
        return new ArrayList<>(symbols.keySet()).get(index);
    }

    int symbolIndex(String name) {
        return new ArrayList<>(symbols.keySet()).indexOf(name);
    }

    int uses(int symbol) {
        int uses = 0;
        for (TwoSides rule : rules) {
            for (Tree side : List.of(rule.left, rule.right)) {
                for (int p = 0; p < side.size(); p++) {
                    uses += !side.at(p).variable() && side.at(p).name().equals(symbol(symbol)) ? 1 : 0;
                }
            }
        }
        return uses;
    }

    boolean duplicates(TwoSides rule) {
        Map<String, Integer> left = variables(rule.left);
        for (Map.Entry<String, Integer> entry : variables(rule.right).entrySet()) {
            if (entry.getValue() > left.getOrDefault(entry.getKey(), 0)) {
                return true;
            }
        }
        return false;
    }

    boolean linear(TwoSides rule) {
        return new HashSet<>(variables(rule.left).values()).stream().allMatch(n -> n == 1);
    }

    // ---- matching and reductions

    static boolean match(Tree pattern, Tree tree, Map<String, Tree> found) {
        if (pattern.variable()) {
            Tree before = found.putIfAbsent(pattern.name(), tree);
            return before == null || before.equals(tree);
        }
        if (tree.variable() || !tree.name().equals(pattern.name())) {
            return false;
        }
        for (int i = 0; i < pattern.parts().size(); i++) {
            if (!match(pattern.parts().get(i), tree.parts().get(i), found)) {
                return false;
            }
        }
        return true;
    }

    /** The term after the step, of whatever size; null if the rule does not match. */
    static Tree rewritten(TwoSides rule, Tree tree, int position) {
        Map<String, Tree> found = new HashMap<>();
        return match(rule.left, tree.at(position), found) ? tree.with(position, rule.right.replaced(found)) : null;
    }

    int ruleAt(Tree tree, int position) {
        Tree part = tree.at(position);
        for (int i = 0; i < rules.size(); i++) {
            if (match(rules.get(i).left, part, new HashMap<>())) {
                return i;
            }
        }
        return -1;
    }

    List<Integer> redexes(Tree tree, boolean innermost) {
        List<Integer> order = positions(tree, innermost);
        order.removeIf(p -> ruleAt(tree, p) < 0);
        return order;
    }

    int firstRedex(Tree tree, boolean innermost) {
        for (int p : positions(tree, innermost)) {
            if (ruleAt(tree, p) >= 0) {
                return p;
            }
        }
        return -1;
    }

    private static List<Integer> positions(Tree tree, boolean innermost) {
        List<Integer> order = new ArrayList<>();
        if (innermost) {
            tree.postorder(0, order);
        } else {
            for (int p = 0; p < tree.size(); p++) {
                order.add(p);
            }
        }
        return order;
    }

    /** Null if there is no step or it is too large. */
    Tree stepped(Tree tree, boolean innermost) {
        int position = firstRedex(tree, innermost);
        if (position < 0) {
            return null;
        }
        Tree next = rewritten(rules.get(ruleAt(tree, position)), tree, position);
        return next.size() > 80 ? null : next;
    }

    /** The terms of the reduction from the first to the normal form; null if it fails. */
    List<Tree> reduction(Tree tree, boolean innermost, int limit) {
        List<Tree> trees = new ArrayList<>(List.of(tree));
        Tree last = tree;
        while (trees.size() <= limit) {
            Tree next = stepped(last, innermost);
            if (next == null) {
                break;
            }
            last = next;
            trees.add(last);
        }
        return firstRedex(last, innermost) < 0 ? trees : null;
    }

    Tree normal(Tree tree, int limit) {
        List<Tree> trees = reduction(tree, true, limit);
        return trees == null ? null : trees.get(trees.size() - 1);
    }

    // ---- unification and critical pairs

    private static Tree walk(Tree tree, Map<String, Tree> by) {
        Tree at = tree;
        while (at.variable() && by.containsKey(at.name())) {
            at = by.get(at.name());
        }
        return at;
    }

    private static boolean occurs(String name, Tree tree, Map<String, Tree> by, Set<String> seen) {
        Tree at = walk(tree, by);
        if (at.variable()) {
            return at.name().equals(name);
        }
        for (Tree part : at.parts()) {
            if (part.variable() && !seen.add(part.name())) {
                continue;
            }
            if (occurs(name, part, by, seen)) {
                return true;
            }
        }
        return false;
    }

    static boolean unify(Tree one, Tree two, Map<String, Tree> by) {
        Tree a = walk(one, by);
        Tree b = walk(two, by);
        if (a.variable() && b.variable() && a.name().equals(b.name())) {
            return true;
        }
        if (a.variable()) {
            by.put(a.name(), b);
            Map<String, Tree> before = new HashMap<>(by);
            before.remove(a.name());
            return !occurs(a.name(), b, before, new HashSet<>());
        }
        if (b.variable()) {
            return unify(b, a, by);
        }
        if (!a.name().equals(b.name())) {
            return false;
        }
        for (int i = 0; i < a.parts().size(); i++) {
            if (!unify(a.parts().get(i), b.parts().get(i), by)) {
                return false;
            }
        }
        return true;
    }

    static double sizeUnder(Tree tree, Map<String, Tree> by, Map<String, Double> known) {
        if (tree.variable()) {
            if (!by.containsKey(tree.name())) {
                return 1;
            }
            if (!known.containsKey(tree.name())) {
                known.put(tree.name(), sizeUnder(by.get(tree.name()), by, known));
            }
            return known.get(tree.name());
        }
        double size = 1;
        for (Tree part : tree.parts()) {
            size += sizeUnder(part, by, known);
        }
        return size;
    }

    private static Tree resolved(Tree tree, Map<String, Tree> by) {
        Tree at = walk(tree, by);
        List<Tree> parts = new ArrayList<>();
        for (Tree part : at.parts()) {
            parts.add(resolved(part, by));
        }
        return new Tree(at.name(), at.variable(), parts);
    }

    List<Pair> pairs() {
        List<Pair> pairs = new ArrayList<>();
        for (int i = 0; i < rules.size(); i++) {
            for (int j = 0; j < rules.size(); j++) {
                for (int p = i == j ? 1 : 0; p < rules.get(i).left.size(); p++) {
                    Pair pair = pair(i, j, p);
                    if (pair != null) {
                        pairs.add(pair);
                    }
                }
            }
        }
        return pairs.size() > 20 ? pairs.subList(0, 20) : pairs;
    }

    private Pair pair(int i, int j, int p) {
        Tree outerLeft = rules.get(i).left.renamed("1");
        Tree outerRight = rules.get(i).right.renamed("1");
        Tree innerLeft = rules.get(j).left.renamed("2");
        Tree innerRight = rules.get(j).right.renamed("2");
        Map<String, Tree> by = new HashMap<>();
        if (outerLeft.at(p).variable() || !unify(innerLeft, outerLeft.at(p), by)) {
            return null;
        }
        Tree changed = outerLeft.with(p, innerRight);
        Map<String, Double> known = new HashMap<>();
        if (sizeUnder(outerRight, by, known) > 80 || sizeUnder(changed, by, known) > 80) {
            return null;
        }
        Tree first = resolved(outerRight, by);
        Tree second = resolved(changed, by);
        Map<String, Tree> names = new HashMap<>();
        for (Tree tree : List.of(first, second)) {
            for (int q = 0; q < tree.size(); q++) {
                if (tree.at(q).variable()) {
                    names.putIfAbsent(tree.at(q).name(), Tree.variable(String.valueOf((char) ('A' + names.size()))));
                }
            }
        }
        return new Pair(i, j, p, first.replaced(names), second.replaced(names));
    }

    boolean joins(Pair pair) {
        Tree first = normal(pair.first, 50);
        return first != null && first.equals(normal(pair.second, 50));
    }

    // ---- changes

    void remember() {
        undo.push(Snapshot.of(this));
        if (undo.size() > 8) {
            undo.removeLast();
        }
    }

    void adopt(Snapshot snapshot) {
        rules = new ArrayList<>(snapshot.rules);
        terms = new ArrayList<>(snapshot.terms);
    }

    // ---- texts

    private record Token(char kind, String text, int position) {
    }

    /** Parses into this model, or throws a Fault and leaves the system as it was. */
    int parse(String text) {
        Model draft = new Model();
        errorCode = 0;
        errorPosition = -1;
        try {
            draft.read(tokens(text));
        } catch (Fault fault) {
            errorCode = fault.code;
            errorPosition = fault.position;
            throw fault;
        }
        loaded = true;
        symbols = draft.symbols;
        rules = draft.rules;
        terms = draft.terms;
        undo.clear();
        Arrays.fill(saved, null);
        return rules.size();
    }

    private static List<Token> tokens(String text) {
        List<Token> tokens = new ArrayList<>();
        int at = 0;
        while (at < text.length()) {
            char c = text.charAt(at);
            if (c == ' ') {
                at++;
                continue;
            }
            int from = at;
            at++;
            char kind = '?';
            if (c >= 'a' && c <= 'z') {
                while (at < text.length() && text.charAt(at) >= 'a' && text.charAt(at) <= 'z') {
                    at++;
                }
                kind = at - from > 6 ? '?' : 'w';
            } else if (c >= 'A' && c <= 'H') {
                kind = 'v';
            } else if (c >= '0' && c <= '9') {
                kind = 'd';
            } else if (";=,()".indexOf(c) >= 0) {
                kind = c;
            }
            tokens.add(new Token(kind, text.substring(from, at), from));
        }
        tokens.add(new Token('$', "", text.length()));
        return tokens;
    }

    private List<Token> tokens;
    private int next;

    private Token take(String kinds) {
        Token token = tokens.get(next);
        if (kinds.indexOf(token.kind) < 0) {
            throw new Fault(1, token.position);
        }
        next++;
        return token;
    }

    private void read(List<Token> all) {
        tokens = all;
        next = 0;
        Token head = take("w");
        if (!head.text.equals("system")) {
            throw new Fault(1, head.position);
        }
        while (take(";$").kind == ';') {
            Token keyword = take("w");
            switch (keyword.text) {
                case "symbol" -> readSymbol(keyword);
                case "rule" -> readRule(keyword);
                case "term" -> {
                    limit(terms, keyword);
                    terms.add(readTerm(new int[] {40}, null, null));
                }
                case "copy" -> {
                    limit(terms, keyword);
                    terms.add(terms.get(readIndex(terms)));
                }
                case "flip" -> {
                    int index = readIndex(rules);
                    TwoSides rule = rules.get(index);
                    if (!rule.canTurn()) {
                        throw new Fault(4, tokens.get(next - 1).position);
                    }
                    rules.set(index, new TwoSides(rule.right, rule.left));
                }
                case "step" -> {
                    int index = readIndex(terms);
                    Tree stepped = stepped(terms.get(index), true);
                    if (stepped == null) {
                        throw new Fault(4, tokens.get(next - 1).position);
                    }
                    terms.set(index, stepped);
                }
                default -> throw new Fault(1, keyword.position);
            }
        }
    }

    private static void limit(List<?> list, Token keyword) {
        if (list.size() >= 6) {
            throw new Fault(5, keyword.position);
        }
    }

    private int readIndex(List<?> list) {
        Token digit = take("d");
        int index = digit.text.charAt(0) - '0';
        if (index >= list.size()) {
            throw new Fault(2, digit.position);
        }
        return index;
    }

    private void readSymbol(Token keyword) {
        if (symbols.size() >= 8) {
            throw new Fault(5, keyword.position);
        }
        Token name = take("w");
        if (symbols.containsKey(name.text)) {
            throw new Fault(3, name.position);
        }
        Token arity = take("d");
        if (arity.text.charAt(0) > '3') {
            throw new Fault(2, arity.position);
        }
        symbols.put(name.text, arity.text.charAt(0) - '0');
    }

    private void readRule(Token keyword) {
        limit(rules, keyword);
        Tree left = readTerm(new int[] {12}, null, "left");
        take("=");
        Tree right = readTerm(new int[] {12}, left, null);
        rules.add(new TwoSides(left, right));
    }

    /** The only element of nodes tells how many may still come. */
    private Tree readTerm(int[] nodes, Tree left, String leftRoot) {
        Token head = take("wv");
        if (head.kind == 'w' && !symbols.containsKey(head.text)) {
            throw new Fault(3, head.position);
        }
        boolean unknown = left != null && !variables(left).containsKey(head.text);
        if (head.kind == 'v' && (leftRoot != null || unknown)) {
            throw new Fault(4, head.position);
        }
        if (nodes[0] == 0) {
            throw new Fault(5, head.position);
        }
        nodes[0]--;
        if (head.kind == 'v') {
            return Tree.variable(head.text);
        }
        List<Tree> parts = new ArrayList<>();
        for (int i = 0; i < symbols.get(head.text); i++) {
            take(i == 0 ? "(" : ",");
            parts.add(readTerm(nodes, left, null));
        }
        if (!parts.isEmpty()) {
            take(")");
        }
        return new Tree(head.text, false, parts);
    }
}
