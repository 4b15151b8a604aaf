import java.util.ArrayList;
import java.util.List;
import java.util.Random;

/** Makes texts of systems, most of them valid, of at most 500 bytes. */
final class SystemText {
    private static final String[] NAMES = {"a", "b", "f", "g", "h", "term", "sum", "abcdef", "rule", "zz"};

    private final Random random;
    private final List<String> names = new ArrayList<>();
    private final List<Integer> arities = new ArrayList<>();
    private final int variables;

    private SystemText(Random random) {
        this.random = random;
        variables = random.nextInt(4) == 0 ? 8 : 1 + random.nextInt(3);
    }

    static String make(Random random) {
        for (int attempt = 0; attempt < 100; attempt++) {
            String text = new SystemText(random).text();
            if (text.length() <= 500) {
                return text;
            }
        }
        return "system";
    }

    private int below(int bound) {
        return random.nextInt(bound);
    }

    private String text() {
        StringBuilder text = new StringBuilder("system");
        int symbols = 1 + below(below(4) == 0 ? 8 : 4);
        int first = below(NAMES.length);
        for (int i = 0; i < symbols; i++) {
            int arity = i == 0 ? 0 : 1 + below(3);
            arity = below(5) == 0 ? 0 : arity;
            names.add(NAMES[(first + i) % NAMES.length]);
            arities.add(arity);
            text.append(";symbol ").append(names.get(i)).append(below(2) == 0 ? " " : "").append(arity);
        }
        int rules = below(7);
        for (int i = 0; i < rules; i++) {
            List<String> used = new ArrayList<>();
            String left = tree(1 + below(below(3) == 0 ? 12 : 6), null, used, true);
            List<String> taken = new ArrayList<>();
            String right = tree(1 + below(below(3) == 0 ? 12 : 5), used, taken, false);
            text.append(";rule ").append(left).append(below(4) == 0 ? " = " : "=").append(right);
        }
        int terms = below(7);
        for (int i = 0; i < terms; i++) {
            if (i > 0 && below(5) == 0) {
                text.append(";copy ").append(below(i));
            } else {
                text.append(";term ").append(tree(1 + below(below(3) == 0 ? 40 : 12), null, new ArrayList<>(), false));
            }
            if (below(12) == 0) {
                text.append(";step").append(below(i + 1));
            }
            if (rules > 0 && below(12) == 0) {
                text.append(";flip ").append(below(rules));
            }
        }
        return text.toString();
    }

    /** A term of at most so many nodes; from null, any variables stand in it. */
    private String tree(int nodes, List<String> from, List<String> used, boolean symbolFirst) {
        List<Integer> fitting = new ArrayList<>();
        for (int i = 0; i < names.size(); i++) {
            if (arities.get(i) < nodes) {
                fitting.add(i);
            }
        }
        boolean leaf = nodes == 1 && below(3) > 0;
        boolean possible = from == null || !from.isEmpty();
        if (!symbolFirst && possible && (leaf || fitting.isEmpty())) {
            String name = from == null ? String.valueOf((char) ('A' + below(variables))) : from.get(below(from.size()));
            used.add(name);
            return name;
        }
        int symbol = fitting.isEmpty() ? 0 : fitting.get(below(fitting.size()));
        if (nodes > 2 && arities.get(symbol) == 0 && !fitting.isEmpty()) {
            symbol = fitting.get(below(fitting.size()));
        }
        StringBuilder text = new StringBuilder(names.get(symbol));
        int left = nodes - 1;
        int arity = arities.get(symbol);
        for (int i = 0; i < arity; i++) {
            int rest = arity - i - 1;
            int share = rest == 0 ? left : 1 + below(left - rest);
            share = Math.max(1, share);
            left -= share;
            text.append(i == 0 ? "(" : ",").append(tree(share, from, used, false));
        }
        return arity == 0 ? text.toString() : text.append(")").toString();
    }
}
