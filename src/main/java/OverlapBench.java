import java.util.Arrays;

/** A workbench for first-order term rewriting systems. */
public final class OverlapBench {
    public static final int NONE = -1;
    public static final int SYNTAX_ERROR = 1;
    public static final int RANGE_ERROR = 2;
    public static final int NAME_ERROR = 3;
    public static final int RULE_ERROR = 4;
    public static final int LIMIT_ERROR = 5;

    private static final int MAX_BYTES = 500;
    private static final int BYTES_OF_APPEND = 20;
    private static final int MAX_SYMBOLS = 8;
    private static final int MAX_ARITY = 3;
    private static final int MAX_LETTERS = 6;
    private static final int VARIABLES = 8;
    private static final int MAX_RULES = 6;
    private static final int MAX_TERMS = 6;
    private static final int MAX_SIDE = 12;
    private static final int MAX_READ_TERM = 40;
    private static final int MAX_NODES = 80;
    private static final int MAX_STEPS = 200;
    private static final int MAX_JOIN_STEPS = 50;
    private static final int MAX_PAIRS = 20;
    private static final int MAX_UNDO = 8;
    private static final int SLOTS = 2;
    // Two terms of 80 nodes, each node with a name of 6 letters and its signs, need less.
    private static final int MAX_OUTPUT = 1600;

    private boolean loaded = false;
    private final Signature signature = new Signature();
    private final State current = new State();
    private final Rewriter rewriter = new Rewriter();
    private final Unifier unifier = new Unifier();
    private final Parser parser = new Parser();
    private final PairList pairs = new PairList();
    private final Output output = new Output();
    private final History history = new History();
    private final State firstSaved = new State();
    private final State secondSaved = new State();
    private boolean firstSlotFull = false;
    private boolean secondSlotFull = false;
    private final Term scratch = new Term(MAX_NODES);
    private final int[] heights = new int[MAX_NODES];

    public OverlapBench() {
    }

    // ---- input buffer and system

    public int append(int a, int b, int c, int d, int e) {
        if (parser.buffered > MAX_BYTES - BYTES_OF_APPEND) {
            return NONE;
        }
        parser.putFourBytes(a);
        parser.putFourBytes(b);
        parser.putFourBytes(c);
        parser.putFourBytes(d);
        parser.putFourBytes(e);
        return parser.buffered;
    }

    public int parseSystem(int length) throws IndexOutOfBoundsException, IllegalArgumentException {
        if (length < 0 || length > parser.buffered) {
            throw new IndexOutOfBoundsException();
        }
        boolean valid = parser.run(length);
        parser.buffered = 0;
        if (!valid) {
            throw new IllegalArgumentException();
        }
        loaded = true;
        signature.copyFrom(parser.signature);
        adopt(parser.state);
        firstSlotFull = false;
        secondSlotFull = false;
        return current.ruleCount;
    }

    public int parseErrorCode() {
        return parser.errorCode;
    }

    public int parseErrorPosition() {
        return parser.errorPosition;
    }

    public int bufferLength() {
        return parser.buffered;
    }

    // ---- symbols

    public int symbolCount() throws IllegalStateException {
        requireSystem();
        return signature.count;
    }

    public int symbolArity(int symbol) throws IllegalStateException, IndexOutOfBoundsException {
        requireSystem();
        requireIndex(symbol, signature.count);
        return signature.arity(symbol);
    }

    public int symbolLetter(int symbol, int index) throws IllegalStateException, IndexOutOfBoundsException {
        requireSystem();
        requireIndex(symbol, signature.count);
        return signature.letter(symbol, index);
    }

    public int symbolUses(int symbol) throws IllegalStateException, IndexOutOfBoundsException {
        requireSystem();
        requireIndex(symbol, signature.count);
        int node = Term.symbolNode(symbol, signature.arity(symbol));
        int uses = 0;
        for (int i = 0; i < current.ruleCount; i++) {
            Rule rule = current.rule(i);
            uses += rule.left.count(node) + rule.right.count(node);
        }
        return uses;
    }

    // ---- rules

    public int ruleCount() throws IllegalStateException {
        requireSystem();
        return current.ruleCount;
    }

    public int leftSize(int rule) throws IllegalStateException, IndexOutOfBoundsException {
        return requireRule(rule).left.size;
    }

    public int rightSize(int rule) throws IllegalStateException, IndexOutOfBoundsException {
        return requireRule(rule).right.size;
    }

    public boolean isLeftLinear(int rule) throws IllegalStateException, IndexOutOfBoundsException {
        Rule asked = requireRule(rule);
        for (int v = 0; v < VARIABLES; v++) {
            if (asked.left.count(Term.variableNode(v)) > 1) {
                return false;
            }
        }
        return true;
    }

    public boolean isCollapsing(int rule) throws IllegalStateException, IndexOutOfBoundsException {
        return requireRule(rule).right.get(0) < 0;
    }

    public boolean isDuplicating(int rule) throws IllegalStateException, IndexOutOfBoundsException {
        return requireRule(rule).duplicates();
    }

    public boolean decreasesSize(int rule) throws IllegalStateException, IndexOutOfBoundsException {
        Rule asked = requireRule(rule);
        return asked.right.size < asked.left.size && !asked.duplicates();
    }

    // ---- terms

    public int termCount() throws IllegalStateException {
        requireSystem();
        return current.termCount;
    }

    public int termSize(int term) throws IllegalStateException, IndexOutOfBoundsException {
        return requireTerm(term).size;
    }

    public int termDepth(int term) throws IllegalStateException, IndexOutOfBoundsException {
        return depthOf(requireTerm(term));
    }

    public int symbolAt(int term, int position) throws IllegalStateException, IndexOutOfBoundsException {
        return Term.symbolOf(requireNode(term, position).get(position));
    }

    public int variableAt(int term, int position) throws IllegalStateException, IndexOutOfBoundsException {
        return Term.variableOf(requireNode(term, position).get(position));
    }

    public int subtermSize(int term, int position) throws IllegalStateException, IndexOutOfBoundsException {
        return requireNode(term, position).end(position) - position;
    }

    public boolean isGround(int term) throws IllegalStateException, IndexOutOfBoundsException {
        Term asked = requireTerm(term);
        for (int p = 0; p < asked.size; p++) {
            if (asked.get(p) < 0) {
                return false;
            }
        }
        return true;
    }

    public boolean areEqual(int term, int other) throws IllegalStateException, IndexOutOfBoundsException {
        return requireTerm(term).sameAs(requireTerm(other));
    }

    public double averageSize() throws IllegalStateException {
        requireSystem();
        int sum = 0;
        for (int i = 0; i < current.termCount; i++) {
            sum += current.term(i).size;
        }
        return current.termCount == 0 ? 0.0 : (double) sum / (double) current.termCount;
    }

    // ---- matching and redexes

    public boolean matches(int rule, int term, int position) throws IllegalStateException, IndexOutOfBoundsException {
        Rule asked = requireRule(rule);
        return rewriter.match(asked, requireNode(term, position), position);
    }

    public int ruleAt(int term, int position) throws IllegalStateException, IndexOutOfBoundsException {
        return rewriter.firstRule(current, requireNode(term, position), position);
    }

    public int redexCount(int term) throws IllegalStateException, IndexOutOfBoundsException {
        return rewriter.countRedexes(current, requireTerm(term));
    }

    public int innermostRedex(int term) throws IllegalStateException, IndexOutOfBoundsException {
        return rewriter.redex(current, requireTerm(term), true);
    }

    public int outermostRedex(int term) throws IllegalStateException, IndexOutOfBoundsException {
        return rewriter.redex(current, requireTerm(term), false);
    }

    public boolean isNormalForm(int term) throws IllegalStateException, IndexOutOfBoundsException {
        return rewriter.redex(current, requireTerm(term), false) == NONE;
    }

    public float normalShare() throws IllegalStateException {
        requireSystem();
        int normal = 0;
        for (int i = 0; i < current.termCount; i++) {
            if (rewriter.redex(current, current.term(i), false) == NONE) {
                normal++;
            }
        }
        return current.termCount == 0 ? 0.0f : (float) normal / (float) current.termCount;
    }

    // ---- normal forms; these methods change nothing

    public int stepsInnermost(int term) throws IllegalStateException, IndexOutOfBoundsException {
        return rewriter.reduce(current, requireTerm(term), true, MAX_STEPS);
    }

    public int stepsOutermost(int term) throws IllegalStateException, IndexOutOfBoundsException {
        return rewriter.reduce(current, requireTerm(term), false, MAX_STEPS);
    }

    public int normalFormSize(int term) throws IllegalStateException, IndexOutOfBoundsException {
        int steps = rewriter.reduce(current, requireTerm(term), true, MAX_STEPS);
        return steps == NONE ? NONE : rewriter.reduced.size;
    }

    public boolean haveSameNormalForm(int term, int other) throws IllegalStateException, IndexOutOfBoundsException {
        Term asked = requireTerm(term);
        return rewriter.meet(current, asked, requireTerm(other), MAX_STEPS);
    }

    // ---- unification

    public boolean unify(int term, int other) throws IllegalStateException, IndexOutOfBoundsException {
        Term asked = requireTerm(term);
        return unifier.unites(asked, requireTerm(other));
    }

    public int unifiedSize(int term, int other) throws IllegalStateException, IndexOutOfBoundsException {
        Term asked = requireTerm(term);
        if (!unifier.unites(asked, requireTerm(other))) {
            return NONE;
        }
        scratch.clear();
        return unifier.expand(0, scratch) ? scratch.size : NONE;
    }

    // ---- critical pairs

    public int criticalPairCount() throws IllegalStateException {
        requireSystem();
        pairs.refresh(current);
        return pairs.count;
    }

    public int pairOuterRule(int pair) throws IllegalStateException, IndexOutOfBoundsException {
        requirePair(pair);
        return pairs.outerRule(pair);
    }

    public int pairInnerRule(int pair) throws IllegalStateException, IndexOutOfBoundsException {
        requirePair(pair);
        return pairs.innerRule(pair);
    }

    public int pairPosition(int pair) throws IllegalStateException, IndexOutOfBoundsException {
        requirePair(pair);
        return pairs.position(pair);
    }

    public boolean pairJoins(int pair) throws IllegalStateException, IndexOutOfBoundsException {
        requirePair(pair);
        return pairs.joins(current, pair);
    }

    public int unjoinedPairs() throws IllegalStateException {
        requireSystem();
        pairs.refresh(current);
        int unjoined = 0;
        for (int i = 0; i < pairs.count; i++) {
            if (!pairs.joins(current, i)) {
                unjoined++;
            }
        }
        return unjoined;
    }

    // ---- text output

    public int writeTerm(int term) throws IllegalStateException, IndexOutOfBoundsException {
        Term asked = requireTerm(term);
        output.length = 0;
        output.addTerm(asked, signature);
        return output.length;
    }

    public int writeRule(int rule) throws IllegalStateException, IndexOutOfBoundsException {
        Rule asked = requireRule(rule);
        output.length = 0;
        output.addTerm(asked.left, signature);
        output.addByte('=');
        output.addTerm(asked.right, signature);
        return output.length;
    }

    public int writeNormalForm(int term) throws IllegalStateException, IndexOutOfBoundsException {
        int steps = rewriter.reduce(current, requireTerm(term), true, MAX_STEPS);
        output.length = 0;
        if (steps == NONE) {
            output.addByte('?');
        } else {
            output.addTerm(rewriter.reduced, signature);
        }
        return output.length;
    }

    public int writePair(int pair) throws IllegalStateException, IndexOutOfBoundsException {
        requirePair(pair);
        output.length = 0;
        output.addTerm(pairs.firstTerm(pair), signature);
        output.addByte('<');
        output.addByte('>');
        output.addTerm(pairs.secondTerm(pair), signature);
        return output.length;
    }

    public int outputByte(int index) throws IndexOutOfBoundsException {
        requireIndex(index, output.length);
        return output.byteAt(index);
    }

    // ---- changes; each one can be undone

    public int rewrite(int rule, int term, int position) throws IllegalStateException, IndexOutOfBoundsException, IllegalArgumentException {
        Rule used = requireRule(rule);
        Term target = requireNode(term, position);
        if (!rewriter.build(used, target, position)) {
            throw new IllegalArgumentException();
        }
        remember();
        target.copyFrom(rewriter.result);
        return target.size;
    }

    public int stepInnermost(int term) throws IllegalStateException, IndexOutOfBoundsException, IllegalArgumentException {
        return takeStep(requireTerm(term), true);
    }

    public int stepOutermost(int term) throws IllegalStateException, IndexOutOfBoundsException, IllegalArgumentException {
        return takeStep(requireTerm(term), false);
    }

    public int normalize(int term) throws IllegalStateException, IndexOutOfBoundsException, IllegalArgumentException {
        Term target = requireTerm(term);
        int steps = rewriter.reduce(current, target, true, MAX_STEPS);
        if (steps == NONE) {
            throw new IllegalArgumentException();
        }
        remember();
        target.copyFrom(rewriter.reduced);
        return steps;
    }

    public int copySubterm(int term, int position) throws IllegalStateException, IndexOutOfBoundsException, IllegalArgumentException {
        Term source = requireNode(term, position);
        if (current.termCount >= MAX_TERMS) {
            throw new IllegalArgumentException();
        }
        remember();
        current.addTerm(source, position, source.end(position));
        return current.termCount - 1;
    }

    public int replaceSubterm(int term, int position, int other) throws IllegalStateException, IndexOutOfBoundsException, IllegalArgumentException {
        Term target = requireNode(term, position);
        Term inserted = requireTerm(other);
        scratch.clear();
        boolean fits = scratch.addPart(target, 0, position)
                && scratch.addPart(inserted, 0, inserted.size)
                && scratch.addPart(target, target.end(position), target.size);
        if (!fits) {
            throw new IllegalArgumentException();
        }
        remember();
        target.copyFrom(scratch);
        return target.size;
    }

    public int swapRules(int rule, int other) throws IllegalStateException, IndexOutOfBoundsException {
        Rule moved = requireRule(rule);
        Rule partner = requireRule(other);
        remember();
        moved.exchange(partner);
        int redexes = 0;
        for (int i = 0; i < current.termCount; i++) {
            redexes += rewriter.countRedexes(current, current.term(i));
        }
        return redexes;
    }

    public int removeRule(int rule) throws IllegalStateException, IndexOutOfBoundsException {
        requireRule(rule);
        remember();
        current.dropRule(rule);
        return current.ruleCount;
    }

    public int reverseRule(int rule) throws IllegalStateException, IndexOutOfBoundsException, IllegalArgumentException {
        Rule turned = requireRule(rule);
        if (!turned.canTurn()) {
            throw new IllegalArgumentException();
        }
        remember();
        turned.turn();
        return turned.left.size;
    }

    public int removeTerm(int term) throws IllegalStateException, IndexOutOfBoundsException {
        requireTerm(term);
        remember();
        current.dropTerm(term);
        return current.termCount;
    }

    public int undo() throws IllegalStateException {
        if (history.count <= 0) {
            throw new IllegalStateException();
        }
        history.takeBack(current);
        pairs.stale = true;
        return history.count;
    }

    public int undoCount() {
        return history.count;
    }

    public int saveState(int slot) throws IllegalStateException, IndexOutOfBoundsException {
        requireSystem();
        requireIndex(slot, SLOTS);
        if (slot == 0) {
            firstSaved.copyFrom(current);
            firstSlotFull = true;
        } else {
            secondSaved.copyFrom(current);
            secondSlotFull = true;
        }
        return current.termCount;
    }

    public int restoreState(int slot) throws IndexOutOfBoundsException, IllegalStateException {
        requireIndex(slot, SLOTS);
        boolean full = slot == 0 ? firstSlotFull : secondSlotFull;
        if (!full) {
            throw new IllegalStateException();
        }
        adopt(slot == 0 ? firstSaved : secondSaved);
        return current.termCount;
    }

    // ---- what the calls share

    private void requireSystem() {
        if (!loaded) {
            throw new IllegalStateException();
        }
    }

    private void requireIndex(int index, int count) {
        if (index < 0 || index >= count) {
            throw new IndexOutOfBoundsException();
        }
    }

    private Rule requireRule(int rule) {
        requireSystem();
        requireIndex(rule, current.ruleCount);
        return current.rule(rule);
    }

    private Term requireTerm(int term) {
        requireSystem();
        requireIndex(term, current.termCount);
        return current.term(term);
    }

    private Term requireNode(int term, int position) {
        Term asked = requireTerm(term);
        requireIndex(position, asked.size);
        return asked;
    }

    private void requirePair(int pair) {
        requireSystem();
        pairs.refresh(current);
        requireIndex(pair, pairs.count);
    }

    private int takeStep(Term target, boolean innermost) {
        int position = rewriter.step(current, target, innermost);
        if (position == NONE) {
            throw new IllegalArgumentException();
        }
        remember();
        target.copyFrom(rewriter.result);
        return position;
    }

    private void remember() {
        history.keep(current);
        pairs.stale = true;
    }

    private void adopt(State source) {
        current.copyFrom(source);
        history.count = 0;
        pairs.stale = true;
    }

    private int depthOf(Term term) {
        // From the right, the heights of a node's arguments lie on top when the node is reached.
        int top = 0;
        int height = 0;
        for (int p = term.size - 1; p >= 0; p--) {
            height = 0;
            for (int k = Term.arityOf(term.get(p)); k > 0; k--) {
                top--;
                if (top >= 0 && top < heights.length) {
                    height = Math.max(height, heights[top]);
                }
            }
            height++;
            if (top >= 0 && top < heights.length) {
                heights[top] = height;
            }
            top++;
        }
        return height;
    }

    /**
     * A row of nodes in preorder. A symbol stands as 4 * symbol + arity, so that a row can be walked without the
     * signature; a variable stands as -1 - variable.
     */
    private static final class Term {
        static final int OUTSIDE = -2147483648;

        final int[] nodes;
        int size = 0;

        Term(int capacity) {
            nodes = new int[Math.max(capacity, 0)];
        }

        static int symbolNode(int symbol, int arity) {
            return 4 * symbol + arity;
        }

        static int variableNode(int variable) {
            return -1 - variable;
        }

        static int arityOf(int node) {
            return node < 0 ? 0 : node & 3;
        }

        static int symbolOf(int node) {
            return node < 0 ? NONE : node >> 2;
        }

        static int variableOf(int node) {
            return node < 0 ? -1 - node : NONE;
        }

        void clear() {
            size = 0;
        }

        int get(int position) {
            return position >= 0 && position < size && position < nodes.length ? nodes[position] : OUTSIDE;
        }

        void set(int position, int node) {
            if (position >= 0 && position < size && position < nodes.length) {
                nodes[position] = node;
            }
        }

        /** Answers false, and adds nothing, if the row is full. */
        boolean add(int node) {
            if (size < 0 || size >= nodes.length) {
                return false;
            }
            nodes[size] = node;
            size++;
            return true;
        }

        /** Adds the nodes from one position to before another; answers false if they do not all fit. */
        boolean addPart(Term source, int from, int to) {
            for (int p = from; p < to; p++) {
                if (!add(source.get(p))) {
                    return false;
                }
            }
            return true;
        }

        void copyFrom(Term source) {
            int copied = Math.min(source.size, nodes.length);
            for (int p = 0; p < copied; p++) {
                nodes[p] = source.get(p);
            }
            size = copied;
        }

        /** The position behind the subterm at a position. */
        int end(int position) {
            int due = 1;
            for (int p = position; p >= 0 && p < size && p < nodes.length; p++) {
                int node = nodes[p];
                due += node < 0 ? -1 : (node & 3) - 1;
                if (due == 0) {
                    return p + 1;
                }
            }
            return size;
        }

        /** Tells whether the subterms at two positions are equal. */
        boolean sameParts(int first, int second) {
            int due = 1;
            int q = second;
            for (int p = first; p >= 0 && p < size && p < nodes.length; p++) {
                if (q < 0 || q >= size || q >= nodes.length || nodes[p] != nodes[q]) {
                    return false;
                }
                due += nodes[p] < 0 ? -1 : (nodes[p] & 3) - 1;
                if (due == 0) {
                    return true;
                }
                q++;
            }
            return false;
        }

        boolean sameAs(Term other) {
            if (size != other.size) {
                return false;
            }
            for (int p = 0; p < size; p++) {
                if (get(p) != other.get(p)) {
                    return false;
                }
            }
            return true;
        }

        int count(int node) {
            int found = 0;
            for (int p = 0; p < size; p++) {
                if (get(p) == node) {
                    found++;
                }
            }
            return found;
        }
    }

    private static final class Rule {
        Term left = new Term(MAX_SIDE);
        Term right = new Term(MAX_SIDE);

        void copyFrom(Rule source) {
            left.copyFrom(source.left);
            right.copyFrom(source.right);
        }

        void exchange(Rule other) {
            Term keptLeft = left;
            Term keptRight = right;
            left = other.left;
            right = other.right;
            other.left = keptLeft;
            other.right = keptRight;
        }

        boolean canTurn() {
            if (right.get(0) < 0) {
                return false;
            }
            for (int p = 0; p < left.size; p++) {
                int node = left.get(p);
                if (node < 0 && right.count(node) == 0) {
                    return false;
                }
            }
            return true;
        }

        void turn() {
            Term kept = left;
            left = right;
            right = kept;
        }

        boolean duplicates() {
            for (int v = 0; v < VARIABLES; v++) {
                int node = Term.variableNode(v);
                if (right.count(node) > left.count(node)) {
                    return true;
                }
            }
            return false;
        }
    }

    private static final class Signature {
        int count = 0;
        private final int[] arities = new int[MAX_SYMBOLS];
        private final int[] lengths = new int[MAX_SYMBOLS];
        private final int[] letters = new int[MAX_SYMBOLS * MAX_LETTERS];

        int arity(int symbol) {
            return symbol >= 0 && symbol < MAX_SYMBOLS ? arities[symbol] : 0;
        }

        int nameLength(int symbol) {
            return symbol >= 0 && symbol < MAX_SYMBOLS ? lengths[symbol] : 0;
        }

        int letter(int symbol, int index) {
            boolean known = symbol >= 0 && symbol < MAX_SYMBOLS && index >= 0 && index < MAX_LETTERS;
            return known && index < lengths[symbol] ? letters[symbol * MAX_LETTERS + index] : NONE;
        }

        /** Begins the name of the symbol that the next call of finish completes. */
        void begin() {
            if (count >= 0 && count < MAX_SYMBOLS) {
                lengths[count] = 0;
            }
        }

        void addLetter(int letter) {
            int length = nameLength(count);
            if (count >= 0 && count < MAX_SYMBOLS && length >= 0 && length < MAX_LETTERS) {
                letters[count * MAX_LETTERS + length] = letter;
                lengths[count] = length + 1;
            }
        }

        void finish(int arity) {
            if (count >= 0 && count < MAX_SYMBOLS) {
                arities[count] = arity;
                count++;
            }
        }

        void copyFrom(Signature source) {
            count = source.count;
            for (int i = 0; i < MAX_SYMBOLS; i++) {
                arities[i] = source.arities[i];
                lengths[i] = source.lengths[i];
            }
            for (int i = 0; i < letters.length && i < source.letters.length; i++) {
                letters[i] = source.letters[i];
            }
        }
    }

    /** The rules and the terms: what a change changes and what undo and restore bring back. */
    private static final class State {
        int ruleCount = 0;
        int termCount = 0;
        private final Rule[] rules = new Rule[MAX_RULES];
        private final Term[] terms = new Term[MAX_TERMS];
        private final Rule noRule = new Rule();
        private final Term noTerm = new Term(0);

        State() {
            for (int i = 0; i < MAX_RULES; i++) {
                rules[i] = new Rule();
            }
            for (int i = 0; i < MAX_TERMS; i++) {
                terms[i] = new Term(MAX_NODES);
            }
        }

        Rule rule(int index) {
            if (index < 0 || index >= rules.length) {
                return noRule;
            }
            Rule found = rules[index];
            return found == null ? noRule : found;
        }

        Term term(int index) {
            if (index < 0 || index >= terms.length) {
                return noTerm;
            }
            Term found = terms[index];
            return found == null ? noTerm : found;
        }

        void clear() {
            ruleCount = 0;
            termCount = 0;
        }

        void copyFrom(State source) {
            ruleCount = source.ruleCount;
            termCount = source.termCount;
            for (int i = 0; i < ruleCount; i++) {
                rule(i).copyFrom(source.rule(i));
            }
            for (int i = 0; i < termCount; i++) {
                term(i).copyFrom(source.term(i));
            }
        }

        void addTerm(Term source, int from, int to) {
            if (termCount < MAX_TERMS) {
                Term added = term(termCount);
                added.clear();
                added.addPart(source, from, to);
                termCount++;
            }
        }

        void dropRule(int index) {
            for (int i = index; i + 1 < ruleCount; i++) {
                rule(i).exchange(rule(i + 1));
            }
            ruleCount--;
        }

        void dropTerm(int index) {
            for (int i = index; i + 1 < termCount; i++) {
                term(i).copyFrom(term(i + 1));
            }
            termCount--;
        }
    }

    private static final class Rewriter {
        /** The term that the latest successful build or step leads to. */
        final Term result = new Term(MAX_NODES);
        /** The normal form that the latest successful reduction led to. */
        final Term reduced = new Term(MAX_NODES);
        private final Term firstNormal = new Term(MAX_NODES);
        private final int[] bound = new int[VARIABLES];

        /** Leaves in bound where the term has what each variable of the left side is replaced by. */
        boolean match(Rule rule, Term term, int position) {
            Arrays.fill(bound, NONE);
            Term left = rule.left;
            int at = position;
            for (int p = 0; p < left.size; p++) {
                int node = left.get(p);
                if (node >= 0) {
                    if (term.get(at) != node) {
                        return false;
                    }
                    at++;
                } else {
                    int variable = -1 - node;
                    if (variable < 0 || variable >= bound.length) {
                        return false;
                    }
                    if (bound[variable] == NONE) {
                        bound[variable] = at;
                    } else if (!term.sameParts(bound[variable], at)) {
                        return false;
                    }
                    at = term.end(at);
                }
            }
            return true;
        }

        /** Rewrites into result; answers false if the rule does not match or the step is too large. */
        boolean build(Rule rule, Term term, int position) {
            if (!match(rule, term, position)) {
                return false;
            }
            result.clear();
            boolean fits = result.addPart(term, 0, position);
            for (int p = 0; fits && p < rule.right.size; p++) {
                int node = rule.right.get(p);
                if (node >= 0) {
                    fits = result.add(node);
                } else {
                    int variable = -1 - node;
                    int from = variable >= 0 && variable < bound.length ? bound[variable] : NONE;
                    fits = from != NONE && result.addPart(term, from, term.end(from));
                }
            }
            return fits && result.addPart(term, term.end(position), term.size);
        }

        int firstRule(State state, Term term, int position) {
            for (int i = 0; i < state.ruleCount; i++) {
                if (match(state.rule(i), term, position)) {
                    return i;
                }
            }
            return NONE;
        }

        int countRedexes(State state, Term term) {
            int found = 0;
            for (int p = 0; p < term.size; p++) {
                if (firstRule(state, term, p) != NONE) {
                    found++;
                }
            }
            return found;
        }

        int redex(State state, Term term, boolean innermost) {
            int best = NONE;
            int end = term.size;
            for (int p = 0; p < term.size && p < end; p++) {
                if (firstRule(state, term, p) != NONE) {
                    if (!innermost) {
                        return p;
                    }
                    // In postorder only the nodes below a redex can come before it; those behind it come later.
                    best = p;
                    end = term.end(p);
                }
            }
            return best;
        }

        private boolean buildFirst(State state, Term term, int position) {
            int first = firstRule(state, term, position);
            return first != NONE && build(state.rule(first), term, position);
        }

        /** Leaves the term after the step in result; answers NONE if there is no step or it is too large. */
        int step(State state, Term term, boolean innermost) {
            int position = redex(state, term, innermost);
            return position != NONE && buildFirst(state, term, position) ? position : NONE;
        }

        /** Answers the number of steps to the normal form, which it leaves in reduced; NONE if it fails. */
        int reduce(State state, Term term, boolean innermost, int limit) {
            reduced.copyFrom(term);
            for (int steps = 0; steps <= limit; steps++) {
                int position = redex(state, reduced, innermost);
                if (position == NONE) {
                    return steps;
                }
                if (steps == limit || !buildFirst(state, reduced, position)) {
                    return NONE;
                }
                reduced.copyFrom(result);
            }
            return NONE;
        }

        /** Tells whether innermost steps, at most limit of them, lead from both terms to the same normal form. */
        boolean meet(State state, Term first, Term second, int limit) {
            if (reduce(state, first, true, limit) == NONE) {
                return false;
            }
            firstNormal.copyFrom(reduced);
            return reduce(state, second, true, limit) != NONE && firstNormal.sameAs(reduced);
        }
    }

    /**
     * Unification over a pool of nodes in which equal nodes are put into one class. A class is never taken apart into
     * copies, so the work stays small even where the unified term would be huge.
     */
    private static final class Unifier {
        private static final int POOL = 2 * MAX_NODES;
        private static final int ALL_VARIABLES = 2 * VARIABLES;
        // Each of fewer than POOL unions puts at most 3 pairs on the stack.
        private static final int STACK = 2 + 6 * POOL;

        private int size = 0;
        private final int[] labels = new int[POOL];
        private final int[] parents = new int[POOL];
        private final int[] ends = new int[POOL];
        private final boolean[] settled = new boolean[POOL];
        private final int[] firstUse = new int[ALL_VARIABLES];
        private final int[] stack = new int[STACK];
        private int top = 0;

        void clear() {
            size = 0;
            Arrays.fill(firstUse, NONE);
        }

        /** Adds a term whose variables are numbered from shift, and answers where its root lies. */
        int load(Term term, int shift) {
            int base = size;
            for (int p = 0; p < term.size && size >= 0 && size < POOL; p++) {
                int node = term.get(p);
                int here = size;
                labels[here] = node < 0 ? node - shift : node;
                ends[here] = base + term.end(p);
                parents[here] = here;
                if (node < 0) {
                    shareVariable(here, shift - 1 - node);
                }
                size++;
            }
            return base;
        }

        private void shareVariable(int here, int variable) {
            if (variable >= 0 && variable < firstUse.length && here >= 0 && here < POOL) {
                if (firstUse[variable] == NONE) {
                    firstUse[variable] = here;
                }
                parents[here] = firstUse[variable];
            }
        }

        boolean unites(Term first, Term second) {
            clear();
            int one = load(first, 0);
            int two = load(second, VARIABLES);
            return solve(one, two);
        }

        boolean solve(int first, int second) {
            return merge(first, second) && isFinite();
        }

        private boolean merge(int first, int second) {
            top = 0;
            push(first);
            push(second);
            for (int turn = 0; turn < STACK && top > 1; turn++) {
                int a = root(pop());
                int b = root(pop());
                if (a != b) {
                    int labelA = label(a);
                    int labelB = label(b);
                    if (labelA >= 0 && labelB >= 0 && labelA != labelB) {
                        return false;
                    }
                    // The class must keep a symbol as its root if it has one.
                    if (labelA < 0) {
                        hang(a, b);
                    } else {
                        hang(b, a);
                    }
                    if (labelA >= 0 && labelB >= 0) {
                        pushArguments(a, b);
                    }
                }
            }
            return true;
        }

        private void pushArguments(int a, int b) {
            int one = a + 1;
            int two = b + 1;
            for (int k = Term.arityOf(label(a)); k > 0; k--) {
                push(one);
                push(two);
                one = end(one);
                two = end(two);
            }
        }

        /** Tells whether no class lies below itself, so that every class stands for a finite term. */
        private boolean isFinite() {
            for (int q = 0; q < POOL; q++) {
                settled[q] = false;
            }
            int open = size;
            boolean progress = true;
            for (int turn = 0; turn <= size && progress; turn++) {
                progress = false;
                for (int q = size - 1; q >= 0; q--) {
                    if (!isSettled(q) && settles(q)) {
                        settle(q);
                        open--;
                        progress = true;
                    }
                }
            }
            return open == 0;
        }

        private boolean settles(int q) {
            int root = root(q);
            if (root != q) {
                return isSettled(root);
            }
            int argument = q + 1;
            for (int k = Term.arityOf(label(q)); k > 0; k--) {
                if (!isSettled(root(argument))) {
                    return false;
                }
                argument = end(argument);
            }
            return true;
        }

        /** Adds the term that a pool node stands for; answers false if it does not fit. Only after solve. */
        boolean expand(int start, Term out) {
            top = 0;
            push(start);
            for (int turn = 0; turn <= MAX_NODES && top > 0; turn++) {
                int q = root(pop());
                if (!out.add(label(q))) {
                    return false;
                }
                pushReversed(q);
            }
            return top == 0;
        }

        /** Pushes the arguments of a node so that the first one is popped first. */
        private void pushReversed(int q) {
            int arity = Term.arityOf(label(q));
            int second = end(q + 1);
            if (arity > 2) {
                push(end(second));
            }
            if (arity > 1) {
                push(second);
            }
            if (arity > 0) {
                push(q + 1);
            }
        }

        private int root(int q) {
            int at = q;
            for (int turn = 0; turn < POOL; turn++) {
                if (at < 0 || at >= POOL || parents[at] == at) {
                    return at;
                }
                at = parents[at];
            }
            return at;
        }

        private int label(int q) {
            return q >= 0 && q < POOL ? labels[q] : Term.OUTSIDE;
        }

        private int end(int q) {
            return q >= 0 && q < POOL ? ends[q] : POOL;
        }

        private boolean isSettled(int q) {
            return q >= 0 && q < POOL && settled[q];
        }

        private void settle(int q) {
            if (q >= 0 && q < POOL) {
                settled[q] = true;
            }
        }

        private void hang(int q, int root) {
            if (q >= 0 && q < POOL) {
                parents[q] = root;
            }
        }

        private void push(int q) {
            if (top >= 0 && top < STACK) {
                stack[top] = q;
                top++;
            }
        }

        private int pop() {
            if (top <= 0 || top > STACK) {
                return NONE;
            }
            top--;
            return stack[top];
        }
    }

    /** The critical pairs, found again only after the rules may have changed. */
    private static final class PairList {
        private static final int UNKNOWN = 0;
        private static final int JOINED = 1;
        private static final int UNJOINED = 2;

        boolean stale = true;
        int count = 0;
        private final Unifier unifier = new Unifier();
        private final Rewriter rewriter = new Rewriter();
        private final int[] outerRules = new int[MAX_PAIRS];
        private final int[] innerRules = new int[MAX_PAIRS];
        private final int[] positions = new int[MAX_PAIRS];
        private final int[] verdicts = new int[MAX_PAIRS];
        private final Term[] firstTerms = new Term[MAX_PAIRS];
        private final Term[] secondTerms = new Term[MAX_PAIRS];
        private final Term noTerm = new Term(0);
        private final int[] names = new int[2 * VARIABLES];

        PairList() {
            for (int i = 0; i < MAX_PAIRS; i++) {
                firstTerms[i] = new Term(MAX_NODES);
                secondTerms[i] = new Term(MAX_NODES);
            }
        }

        private boolean has(int pair) {
            return pair >= 0 && pair < MAX_PAIRS;
        }

        int outerRule(int pair) {
            return has(pair) ? outerRules[pair] : NONE;
        }

        int innerRule(int pair) {
            return has(pair) ? innerRules[pair] : NONE;
        }

        int position(int pair) {
            return has(pair) ? positions[pair] : NONE;
        }

        Term firstTerm(int pair) {
            Term found = has(pair) ? firstTerms[pair] : noTerm;
            return found == null ? noTerm : found;
        }

        Term secondTerm(int pair) {
            Term found = has(pair) ? secondTerms[pair] : noTerm;
            return found == null ? noTerm : found;
        }

        void refresh(State state) {
            if (!stale) {
                return;
            }
            stale = false;
            count = 0;
            for (int i = 0; i < state.ruleCount; i++) {
                Rule outer = state.rule(i);
                for (int j = 0; j < state.ruleCount; j++) {
                    Rule inner = state.rule(j);
                    for (int p = i == j ? 1 : 0; p < outer.left.size; p++) {
                        // Other symbols cannot unify, and a left side never begins with a variable.
                        if (outer.left.get(p) == inner.left.get(0) && has(count) && buildPair(outer, inner, p)) {
                            keep(i, j, p);
                        }
                    }
                }
            }
        }

        private void keep(int outer, int inner, int position) {
            if (has(count)) {
                outerRules[count] = outer;
                innerRules[count] = inner;
                positions[count] = position;
                verdicts[count] = UNKNOWN;
                count++;
            }
        }

        /** Builds the pair at count; answers false if there is no unifier or a term is too large. */
        private boolean buildPair(Rule outer, Rule inner, int position) {
            unifier.clear();
            int outerLeft = unifier.load(outer.left, 0);
            int innerLeft = unifier.load(inner.left, VARIABLES);
            int outerRight = unifier.load(outer.right, 0);
            int innerRight = unifier.load(inner.right, VARIABLES);
            if (!unifier.solve(outerLeft + position, innerLeft)) {
                return false;
            }
            Term first = firstTerm(count);
            Term second = secondTerm(count);
            first.clear();
            second.clear();
            boolean fits = unifier.expand(outerRight, first);
            for (int p = 0; fits && p < outer.left.size; p++) {
                if (p == position) {
                    fits = unifier.expand(innerRight, second);
                    p = Math.max(p, outer.left.end(p) - 1);
                } else {
                    int node = outer.left.get(p);
                    fits = node < 0 ? unifier.expand(outerLeft + p, second) : second.add(node);
                }
            }
            Arrays.fill(names, NONE);
            return fits && nameVariables(second, nameVariables(first, 0)) >= 0;
        }

        /** Names the variables by their first occurrence and answers the number of names given so far. */
        private int nameVariables(Term term, int given) {
            int named = given;
            for (int p = 0; p < term.size; p++) {
                int variable = Term.variableOf(term.get(p));
                if (variable >= 0 && variable < names.length) {
                    if (names[variable] == NONE) {
                        names[variable] = named;
                        named++;
                    }
                    term.set(p, Term.variableNode(names[variable]));
                }
            }
            return named;
        }

        boolean joins(State state, int pair) {
            if (!has(pair)) {
                return false;
            }
            if (verdicts[pair] == UNKNOWN) {
                boolean met = rewriter.meet(state, firstTerm(pair), secondTerm(pair), MAX_JOIN_STEPS);
                verdicts[pair] = met ? JOINED : UNJOINED;
            }
            return verdicts[pair] == JOINED;
        }
    }

    /** Holds the input buffer and reads it into a signature and a state of its own, so that a bad text spoils nothing. */
    private static final class Parser {
        private static final int END = 0;
        private static final int BAD = 1;
        private static final int WORD = 'a';
        private static final int VARIABLE = 'A';
        private static final int DIGIT = '0';

        private static final int PLAIN = 0;
        private static final int LEFT = 1;
        private static final int RIGHT = 2;

        int errorCode = 0;
        int errorPosition = NONE;
        final Signature signature = new Signature();
        final State state = new State();
        int buffered = 0;
        private final int[] bytes = new int[MAX_BYTES];
        private final Rewriter rewriter = new Rewriter();
        private final int[] due = new int[MAX_READ_TERM];
        private int length = 0;
        /** The kind of the token that has been read ahead; a sign is its own kind. */
        private int kind = END;
        private int start = 0;
        private int stop = 0;

        /** Puts the bytes of a number at the end of the input buffer, the most significant one first. */
        void putFourBytes(int word) {
            for (int shift = 24; shift >= 0; shift -= 8) {
                if (buffered >= 0 && buffered < bytes.length) {
                    bytes[buffered] = (word >>> shift) & 255;
                    buffered++;
                }
            }
        }

        boolean run(int textLength) {
            length = textLength;
            stop = 0;
            errorCode = 0;
            errorPosition = NONE;
            signature.count = 0;
            state.clear();
            next();
            if (!isWord("system")) {
                return fail(SYNTAX_ERROR);
            }
            next();
            for (int item = 0; item <= MAX_BYTES && kind != END; item++) {
                if (kind != ';') {
                    return fail(SYNTAX_ERROR);
                }
                next();
                boolean read = isWord("symbol") ? readSymbol()
                        : isWord("rule") ? readRule()
                        : isWord("term") ? readPlainTerm()
                        : isWord("copy") ? readCopy()
                        : isWord("flip") ? readFlip()
                        : isWord("step") ? readStep()
                        : fail(SYNTAX_ERROR);
                if (!read) {
                    return false;
                }
            }
            return true;
        }

        private boolean fail(int code) {
            errorCode = code;
            errorPosition = start;
            return false;
        }

        private boolean readSymbol() {
            if (signature.count >= MAX_SYMBOLS) {
                return fail(LIMIT_ERROR);
            }
            next();
            if (kind != WORD) {
                return fail(SYNTAX_ERROR);
            }
            if (symbolOfWord() != NONE) {
                return fail(NAME_ERROR);
            }
            signature.begin();
            for (int i = start; i < stop; i++) {
                signature.addLetter(byteAt(i));
            }
            next();
            if (!readDigit(MAX_ARITY + 1)) {
                return false;
            }
            signature.finish(digit());
            next();
            return true;
        }

        private boolean readRule() {
            if (state.ruleCount >= MAX_RULES) {
                return fail(LIMIT_ERROR);
            }
            next();
            Rule rule = state.rule(state.ruleCount);
            if (!readTerm(rule.left, MAX_SIDE, LEFT)) {
                return false;
            }
            if (kind != '=') {
                return fail(SYNTAX_ERROR);
            }
            next();
            if (!readTerm(rule.right, MAX_SIDE, RIGHT)) {
                return false;
            }
            state.ruleCount++;
            return true;
        }

        private boolean readPlainTerm() {
            if (state.termCount >= MAX_TERMS) {
                return fail(LIMIT_ERROR);
            }
            next();
            if (!readTerm(state.term(state.termCount), MAX_READ_TERM, PLAIN)) {
                return false;
            }
            state.termCount++;
            return true;
        }

        private boolean readCopy() {
            if (state.termCount >= MAX_TERMS) {
                return fail(LIMIT_ERROR);
            }
            next();
            if (!readDigit(state.termCount)) {
                return false;
            }
            Term source = state.term(digit());
            state.addTerm(source, 0, source.size);
            next();
            return true;
        }

        private boolean readFlip() {
            next();
            if (!readDigit(state.ruleCount)) {
                return false;
            }
            Rule rule = state.rule(digit());
            if (!rule.canTurn()) {
                return fail(RULE_ERROR);
            }
            rule.turn();
            next();
            return true;
        }

        private boolean readStep() {
            next();
            if (!readDigit(state.termCount)) {
                return false;
            }
            Term term = state.term(digit());
            if (rewriter.step(state, term, true) == NONE) {
                return fail(RULE_ERROR);
            }
            term.copyFrom(rewriter.result);
            next();
            return true;
        }

        /** Tells whether the token is a digit below a bound; the token stays the one read ahead. */
        private boolean readDigit(int bound) {
            if (kind != DIGIT) {
                return fail(SYNTAX_ERROR);
            }
            return digit() < bound || fail(RANGE_ERROR);
        }

        private int digit() {
            return byteAt(start) - '0';
        }

        private boolean readTerm(Term target, int limit, int role) {
            target.clear();
            int depth = 0;
            for (int turn = 0; turn <= limit; turn++) {
                int fault = faultOfNode(target, limit, role);
                if (fault != 0) {
                    return fail(fault);
                }
                int node = nodeOfToken();
                target.add(node);
                next();
                if (Term.arityOf(node) > 0) {
                    if (kind != '(' || depth >= due.length) {
                        return fail(SYNTAX_ERROR);
                    }
                    next();
                    due[depth] = Term.arityOf(node);
                    depth++;
                } else {
                    depth = closeBrackets(depth);
                    if (depth <= 0) {
                        return depth == 0;
                    }
                }
            }
            return fail(LIMIT_ERROR);
        }

        /** Reads what must follow a whole term; answers the brackets that stay open, or NONE after an error. */
        private int closeBrackets(int depth) {
            for (int open = depth - 1; open >= 0 && open < due.length; open--) {
                due[open]--;
                boolean more = due[open] > 0;
                if (kind != (more ? ',' : ')')) {
                    fail(SYNTAX_ERROR);
                    return NONE;
                }
                next();
                if (more) {
                    return open + 1;
                }
            }
            return 0;
        }

        /** The smallest error code of the token as the next node of a term, 0 if it is allowed. */
        private int faultOfNode(Term target, int limit, int role) {
            if (kind != WORD && kind != VARIABLE) {
                return SYNTAX_ERROR;
            }
            if (kind == WORD && symbolOfWord() == NONE) {
                return NAME_ERROR;
            }
            if (kind == VARIABLE && role == LEFT && target.size == 0) {
                return RULE_ERROR;
            }
            if (kind == VARIABLE && role == RIGHT && state.rule(state.ruleCount).left.count(variableOfToken()) == 0) {
                return RULE_ERROR;
            }
            return target.size >= limit ? LIMIT_ERROR : 0;
        }

        private int variableOfToken() {
            return Term.variableNode(byteAt(start) - 'A');
        }

        private int nodeOfToken() {
            if (kind == VARIABLE) {
                return variableOfToken();
            }
            int symbol = symbolOfWord();
            return Term.symbolNode(symbol, signature.arity(symbol));
        }

        private int symbolOfWord() {
            for (int symbol = 0; symbol < signature.count; symbol++) {
                if (isNamed(symbol)) {
                    return symbol;
                }
            }
            return NONE;
        }

        private boolean isNamed(int symbol) {
            if (stop - start != signature.nameLength(symbol)) {
                return false;
            }
            for (int i = start; i < stop; i++) {
                if (byteAt(i) != signature.letter(symbol, i - start)) {
                    return false;
                }
            }
            return true;
        }

        private boolean isWord(String word) {
            if (kind != WORD || stop - start != word.length()) {
                return false;
            }
            for (int i = 0; i < word.length(); i++) {
                if (byteAt(start + i) != word.charAt(i)) {
                    return false;
                }
            }
            return true;
        }

        private int byteAt(int index) {
            return index >= 0 && index < length && index < bytes.length ? bytes[index] : NONE;
        }

        private void next() {
            start = stop;
            while (start < length && byteAt(start) == ' ') {
                start++;
            }
            stop = start;
            while (stop < length && byteAt(stop) >= 'a' && byteAt(stop) <= 'z') {
                stop++;
            }
            if (stop > start) {
                kind = stop - start > MAX_LETTERS ? BAD : WORD;
            } else if (start >= length) {
                kind = END;
            } else {
                kind = kindOfByte(byteAt(start));
                stop = start + 1;
            }
        }

        private int kindOfByte(int first) {
            if (first >= 'A' && first < 'A' + VARIABLES) {
                return VARIABLE;
            }
            if (first >= '0' && first <= '9') {
                return DIGIT;
            }
            boolean sign = first == ';' || first == '=' || first == ',' || first == '(' || first == ')';
            return sign ? first : BAD;
        }
    }

    private static final class Output {
        int length = 0;
        private final int[] bytes = new int[MAX_OUTPUT];
        private final int[] due = new int[MAX_NODES];

        int byteAt(int index) {
            return index >= 0 && index < length && index < bytes.length ? bytes[index] : NONE;
        }

        void addByte(int value) {
            if (length >= 0 && length < bytes.length) {
                bytes[length] = value;
                length++;
            }
        }

        void addTerm(Term term, Signature signature) {
            int depth = 0;
            for (int p = 0; p < term.size; p++) {
                int node = term.get(p);
                addName(node, signature);
                if (Term.arityOf(node) == 0) {
                    depth = closeBrackets(depth);
                } else if (depth >= 0 && depth < due.length) {
                    addByte('(');
                    due[depth] = Term.arityOf(node);
                    depth++;
                }
            }
        }

        private void addName(int node, Signature signature) {
            if (node < 0) {
                addByte('A' + Term.variableOf(node));
                return;
            }
            int symbol = Term.symbolOf(node);
            for (int i = 0; i < signature.nameLength(symbol); i++) {
                addByte(signature.letter(symbol, i));
            }
        }

        /** Writes what follows a whole term; answers the number of brackets that stay open. */
        private int closeBrackets(int depth) {
            for (int open = depth - 1; open >= 0 && open < due.length; open--) {
                due[open]--;
                if (due[open] > 0) {
                    addByte(',');
                    return open + 1;
                }
                addByte(')');
            }
            return 0;
        }
    }

    /** The states before the latest changes; the oldest one makes room for a ninth. */
    private static final class History {
        int count = 0;
        private int newest = 0;
        private final State[] states = new State[MAX_UNDO];

        History() {
            for (int i = 0; i < MAX_UNDO; i++) {
                states[i] = new State();
            }
        }

        void keep(State state) {
            newest = newest + 1 < MAX_UNDO ? newest + 1 : 0;
            count = Math.min(count + 1, MAX_UNDO);
            State kept = at(newest);
            if (kept != null) {
                kept.copyFrom(state);
            }
        }

        /** Puts the latest kept state into a state and forgets it. */
        void takeBack(State state) {
            State kept = at(newest);
            if (count > 0 && kept != null) {
                state.copyFrom(kept);
                count--;
                newest = newest > 0 ? newest - 1 : MAX_UNDO - 1;
            }
        }

        private State at(int index) {
            return index >= 0 && index < states.length ? states[index] : null;
        }
    }
}
