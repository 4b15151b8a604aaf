import java.util.ArrayList;
import java.util.Collections;
import java.util.List;
import java.util.Random;
import java.util.function.Supplier;

/**
 * Makes texts of systems that lead where a text of SystemText seldom does: pairs with more than eight variables, pairs
 * and unified terms of about 80 nodes and more, and reductions of about 50 and 200 steps.
 */
final class HardText {
    private static final int SIDE = 12;
    private static final int TERM = 40;
    private static final int BYTES = 500;
    private static final String LETTERS = "ABCDEFGH";

    private final Random random;
    private final StringBuilder text = new StringBuilder("system");

    private HardText(Random random) {
        this.random = random;
    }

    static String make(Random random) {
        HardText hard = new HardText(random);
        switch (random.nextInt(4)) {
            case 0 -> hard.manyVariables();
            case 1 -> hard.manyCopies();
            case 2 -> hard.unifiedTerms();
            default -> hard.manySteps();
        }
        return hard.text.toString();
    }

    private int below(int bound) {
        return random.nextInt(bound);
    }

    private boolean coin() {
        return random.nextBoolean();
    }

    private void add(String item) {
        if (text.length() + 1 + item.length() <= BYTES) {
            text.append(';').append(item);
        }
    }

    private static int nodes(String term) {
        return term.replaceAll("[^A-Za-z]", "").length();
    }

    /** The first one that is small enough; the names have one letter. */
    private static String fitting(int limit, Supplier<String> maker) {
        for (int attempt = 0; attempt < 1000; attempt++) {
            String made = maker.get();
            if (nodes(made) <= limit) {
                return made;
            }
        }
        throw new IllegalStateException("nothing fits");
    }

    /** A tree of g and h over these leaves, in their order. */
    private String tree(List<String> leaves) {
        int count = leaves.size();
        if (count == 1) {
            return leaves.get(0);
        }
        int first = 1 + below(count - 1);
        if (count == 2 || first == count - 1 || below(3) == 0) {
            return "g(" + tree(leaves.subList(0, first)) + "," + tree(leaves.subList(first, count)) + ")";
        }
        int second = first + 1 + below(count - first - 1);
        return "h(" + tree(leaves.subList(0, first)) + "," + tree(leaves.subList(first, second)) + ","
                + tree(leaves.subList(second, count)) + ")";
    }

    private String treeOf(String letters, int count, int limit) {
        return fitting(limit, () -> {
            List<String> leaves = new ArrayList<>();
            for (int i = 0; i < count; i++) {
                leaves.add(String.valueOf(letters.charAt(below(letters.length()))));
            }
            return tree(leaves);
        });
    }

    private void manyVariables() {
        add("symbol g 2");
        add("symbol h 3");
        for (int i = 1 + below(3); i >= 0; i--) {
            List<String> letters = new ArrayList<>(List.of(LETTERS.split("")));
            Collections.shuffle(letters, random);
            List<String> used = letters.subList(0, 3 + below(6));
            List<String> kept = new ArrayList<>(used);
            Collections.shuffle(kept, random);
            List<String> right = coin() ? kept : kept.subList(0, 1 + below(kept.size()));
            add("rule " + fitting(SIDE, () -> tree(used)) + "=" + fitting(SIDE, () -> tree(right)));
        }
        add("term " + fitting(TERM, () -> tree(List.of(treeOf(LETTERS, 6, SIDE), treeOf(LETTERS, 5, SIDE), treeOf("AB", 4, SIDE)))));
    }

    private void manyCopies() {
        add("symbol a 0");
        add("symbol f 1");
        add("symbol g 2");
        add("symbol h 3");
        String[] lefts = {"g(f(A),a)", "g(f(A),A)", "h(f(A),A,f(A))", "f(f(A))", "h(a,f(f(A)),a)"};
        for (int i = below(2); i >= 0; i--) {
            add("rule " + lefts[below(lefts.length)] + "=" + treeOf("A", 5 + below(4), SIDE));
            String inner = treeOf(coin() ? "A" : "AAa", 4 + below(4), SIDE - 1);
            add("rule f(" + inner + ")=" + treeOf(inner.contains("A") ? "A" : "a", 1 + below(7), SIDE));
        }
        for (int i = 0; i < 2; i++) {
            String inner = treeOf("Aa", 5, SIDE);
            add("term " + fitting(TERM, () -> "g(f(" + treeOf("Aa", 1 + below(6), SIDE) + "),h(a,f(f(" + inner + ")),A))"));
        }
    }

    /** The last terms, level by level twice the one before, tied to the leaves of the other side. */
    private void unifiedTerms() {
        add("symbol a 0");
        add("symbol f 1");
        add("symbol g 2");
        add("symbol h 3");
        String[] doubled = {"g(%s,%s)", "g(%s,%s)", "h(%s,a,%s)", "h(%s,B,%s)"};
        for (int i = 0; i < 3; i++) {
            int levels = 2 + below(6);
            List<String> one = new ArrayList<>();
            List<String> two = new ArrayList<>();
            for (int level = 1; level <= levels; level++) {
                String letter = LETTERS.substring(level, level + 1);
                String before = LETTERS.substring(level - 1, level);
                String large = below(9) == 0 ? "f(" + LETTERS.charAt(below(levels + 1)) + ")"
                        : String.format(doubled[below(doubled.length)], before, before);
                boolean turned = below(3) == 0;
                one.add(turned ? large : letter);
                two.add(turned ? letter : large);
            }
            for (int level = 0; level <= levels; level++) {
                if (below(4) > 0) {
                    one.add(LETTERS.substring(level, level + 1));
                    two.add(LETTERS.substring(level, level + 1));
                }
            }
            addTerm(chain(one));
            addTerm(chain(two));
        }
    }

    private void addTerm(String term) {
        if (nodes(term) <= TERM) {
            add("term " + term);
        }
    }

    private static String chain(List<String> parts) {
        String chain = parts.get(parts.size() - 1);
        for (int i = parts.size() - 2; i >= 0; i--) {
            chain = "g(" + parts.get(i) + "," + chain + ")";
        }
        return chain;
    }

    private static String wrapped(String name, int times, String core) {
        return (name + "(").repeat(times) + core + ")".repeat(times);
    }

    private String tower(int most) {
        String core = wrapped("x", below(8) == 0 ? 2 : 0, "a");
        for (int i = below(3); i >= 0; i--) {
            core = "w(" + wrapped("s", 1 + below(most), "a") + "," + core + ")";
        }
        return core;
    }

    private void manySteps() {
        add("symbol a 0");
        add("symbol s 1");
        add("symbol x 1");
        add("symbol w 2");
        add("symbol q 0");
        String[] repeats = {"w(A,w(A,B))", "w(A,w(A,B))", "w(A,w(A,x(B)))", "w(A,x(w(A,B)))", "w(A,w(A,w(A,B)))"};
        String[] ends = {"x(A)=A", "x(A)=A", "x(x(A))=A", "x(A)=w(s(a),A)"};
        if (coin()) {
            add("rule w(s(s(A)),B)=" + (coin() ? "w(s(A),w(A,B))" : "w(s(A),x(B))"));
        }
        add("rule w(a,B)=B");
        add("rule w(s(A),B)=" + repeats[below(repeats.length)]);
        add("rule " + ends[below(ends.length)]);
        add("rule q=" + fitting(SIDE, () -> tower(8)));
        add("rule q=" + fitting(SIDE, () -> coin() ? "a" : tower(8)));
        for (int i = 0; i < 5; i++) {
            addTerm(tower(8));
        }
    }
}
