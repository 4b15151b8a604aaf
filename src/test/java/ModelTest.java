import java.util.HashMap;
import java.util.List;
import java.util.Map;
import java.util.Random;

/** Long runs of calls, made by a generator with fixed seeds, on the program and on the model. */
public final class ModelTest {
    private static final int RUNS = 150;
    private static final int CALLS = 512;
    /** A text takes 25 calls to append and four to parse; a shorter one may have been before it. */
    private static final int MOST_AT_ONCE = 60;
    private static final int TEXTS = 6000;

    private final Random random;
    private OverlapBench bench = new OverlapBench();
    private Model model = new Model();
    private StringBuilder buffer = new StringBuilder();
    private int calls = 0;
    private String log = "";

    private ModelTest(long seed) {
        random = new Random(seed);
    }

    public static void main(String[] args) {
        int runs = args.length > 0 ? Integer.parseInt(args[0]) : RUNS;
        long seed = args.length > 1 ? Long.parseLong(args[1]) : 1;
        for (int i = 0; i < runs; i++) {
            new ModelTest(seed * 1_000_003 + i).run();
        }
        new ModelTest(seed).texts(TEXTS * runs / RUNS);
        Check.finish();
    }

    private int below(int bound) {
        return random.nextInt(bound);
    }

    // ---- comparing

    interface Want {
        Object run();
    }

    private void same(String what, Check.Call got, Want want) {
        calls++;
        Object answer = answer(got::run);
        Object due = answer(want::run);
        if (!answer.equals(due)) {
            Check.due(log + "\n" + what, answer, due);
            throw new IllegalStateException("the run is broken off: " + log + " " + what + " got " + answer + " due " + due);
        }
    }

    /** Exceptions count by their exact class. */
    private static Object answer(Want call) {
        try {
            return call.run();
        } catch (Model.Fault fault) {
            return IllegalArgumentException.class;
        } catch (RuntimeException e) {
            return e.getClass();
        }
    }

    private void system() {
        if (!model.loaded) {
            throw new IllegalStateException();
        }
    }

    private static void index(int index, int count) {
        if (index < 0 || index >= count) {
            throw new IndexOutOfBoundsException();
        }
    }

    private Model.TwoSides rule(int rule) {
        system();
        index(rule, model.rules.size());
        return model.rules.get(rule);
    }

    private Model.Tree term(int term) {
        system();
        index(term, model.terms.size());
        return model.terms.get(term);
    }

    private Model.Tree node(int term, int position) {
        Model.Tree tree = term(term);
        index(position, tree.size());
        return tree.at(position);
    }

    private Model.Pair pair(int pair) {
        system();
        List<Model.Pair> pairs = model.pairs();
        index(pair, pairs.size());
        return pairs.get(pair);
    }

    private static void require(boolean holds) {
        if (!holds) {
            throw new IllegalArgumentException();
        }
    }

    private int written(String text) {
        model.output = text;
        return text.length();
    }

    private int change(int answer, Runnable action) {
        model.remember();
        action.run();
        return answer;
    }

    // ---- a run

    private void run() {
        load();
        while (calls < CALLS - MOST_AT_ONCE) {
            if (below(150) == 0) {
                load();
            }
            call(below(63));
        }
    }

    private void load() {
        String text = below(3) == 0 ? HardText.make(random) : SystemText.make(random);
        if (below(5) == 0) {
            text = mutated(text);
        }
        log = text;
        feed(text);
        parse(text.length());
    }

    private void feed(String text) {
        for (int at = 0; at < text.length(); at += 20) {
            int[] words = new int[5];
            for (int i = 0; i < 20; i++) {
                words[i / 4] = words[i / 4] << 8 | (at + i < text.length() ? text.charAt(at + i) & 255 : ' ');
            }
            int before = buffer.length();
            if (before <= 480) {
                for (int i = 0; i < 20; i++) {
                    buffer.append((char) (words[i / 4] >>> 24 - 8 * (i % 4) & 255));
                }
            }
            int due = before <= 480 ? buffer.length() : -1;
            same("append", () -> bench.append(words[0], words[1], words[2], words[3], words[4]), () -> due);
        }
    }

    private void parse(int length) {
        same("parseSystem(" + length + ")", () -> bench.parseSystem(length), () -> {
            index(length, buffer.length() + 1);
            String text = buffer.substring(0, length);
            buffer = new StringBuilder();
            return model.parse(text);
        });
        same("bufferLength", bench::bufferLength, () -> buffer.length());
        same("code", bench::parseErrorCode, () -> model.errorCode);
        same("position", bench::parseErrorPosition, () -> model.errorPosition);
    }

    private int some(int count) {
        int wild = below(40);
        if (wild == 0) {
            return new int[] {-1, count, Integer.MIN_VALUE, Integer.MAX_VALUE}[below(4)];
        }
        return below(Math.max(count, 1));
    }

    private int position(int term) {
        boolean there = term >= 0 && term < model.terms.size();
        return some(there ? model.terms.get(term).size() : 3);
    }

    private void call(int which) {
        int r = some(model.rules.size());
        int r2 = some(model.rules.size());
        int t = some(model.terms.size());
        int t2 = some(model.terms.size());
        int p = position(t);
        int s = some(model.symbols.size());
        int slot = some(2);
        log += "; " + which + " r" + r + " r" + r2 + " t" + t + " t" + t2 + " p" + p + " s" + s + " slot" + slot;
        if (which < 20) {
            ask(which, r, t, t2, p, s);
        } else if (which < 32) {
            reduce(which, r, t, t2, p);
        } else if (which < 42) {
            pairsAndOutput(which, r, t, t2);
        } else {
            change(which, r, r2, t, t2, p, slot);
        }
    }

    private void ask(int which, int r, int t, int t2, int p, int s) {
        switch (which) {
            case 0 -> same("symbolCount", bench::symbolCount, () -> {
                system();
                return model.symbols.size();
            });
            case 1 -> same("symbolArity", () -> bench.symbolArity(s), () -> {
                system();
                index(s, model.symbols.size());
                return model.symbols.get(model.symbol(s));
            });
            case 2 -> {
                int letter = below(8) - 1;
                same("symbolLetter", () -> bench.symbolLetter(s, letter), () -> {
                    system();
                    index(s, model.symbols.size());
                    String name = model.symbol(s);
                    return letter < 0 || letter >= name.length() ? -1 : (int) name.charAt(letter);
                });
            }
            case 3 -> same("symbolUses", () -> bench.symbolUses(s), () -> {
                system();
                index(s, model.symbols.size());
                return model.uses(s);
            });
            case 4 -> same("ruleCount", bench::ruleCount, () -> {
                system();
                return model.rules.size();
            });
            case 5 -> same("leftSize", () -> bench.leftSize(r), () -> rule(r).left().size());
            case 6 -> same("rightSize", () -> bench.rightSize(r), () -> rule(r).right().size());
            case 7 -> same("isLeftLinear", () -> bench.isLeftLinear(r), () -> model.linear(rule(r)));
            case 8 -> same("isCollapsing", () -> bench.isCollapsing(r), () -> rule(r).right().variable());
            case 9 -> same("isDuplicating", () -> bench.isDuplicating(r), () -> model.duplicates(rule(r)));
            case 10 -> same("decreasesSize", () -> bench.decreasesSize(r),
                    () -> rule(r).right().size() < rule(r).left().size() && !model.duplicates(rule(r)));
            case 11 -> same("termCount", bench::termCount, () -> {
                system();
                return model.terms.size();
            });
            case 12 -> same("termSize", () -> bench.termSize(t), () -> term(t).size());
            case 13 -> same("termDepth", () -> bench.termDepth(t), () -> term(t).depth());
            case 14 -> same("symbolAt", () -> bench.symbolAt(t, p),
                    () -> node(t, p).variable() ? -1 : model.symbolIndex(node(t, p).name()));
            case 15 -> same("variableAt", () -> bench.variableAt(t, p),
                    () -> node(t, p).variable() ? node(t, p).name().charAt(0) - 'A' : -1);
            case 16 -> same("subtermSize", () -> bench.subtermSize(t, p), () -> node(t, p).size());
            case 17 -> same("isGround", () -> bench.isGround(t), () -> Model.variables(term(t)).isEmpty());
            case 18 -> same("areEqual", () -> bench.areEqual(t, t2), () -> term(t).equals(term(t2)));
            default -> same("averageSize", bench::averageSize, () -> {
                system();
                double sum = 0;
                for (Model.Tree tree : model.terms) {
                    sum += tree.size();
                }
                return model.terms.isEmpty() ? 0.0 : sum / model.terms.size();
            });
        }
    }

    private Object sizeOf(Model.Tree tree) {
        return tree == null ? -1 : tree.size();
    }

    private Object steps(List<Model.Tree> trees) {
        return trees == null ? -1 : trees.size() - 1;
    }

    private Object first(List<Integer> redexes) {
        return redexes.isEmpty() ? -1 : redexes.get(0);
    }

    private void reduce(int which, int r, int t, int t2, int p) {
        switch (which) {
            case 20 -> same("matches", () -> bench.matches(r, t, p), () -> {
                Model.TwoSides rule = rule(r);
                node(t, p);
                return Model.rewritten(rule, term(t), p) != null;
            });
            case 21 -> same("ruleAt", () -> bench.ruleAt(t, p), () -> {
                node(t, p);
                return model.ruleAt(term(t), p);
            });
            case 22 -> same("redexCount", () -> bench.redexCount(t), () -> model.redexes(term(t), true).size());
            case 23 -> same("innermostRedex", () -> bench.innermostRedex(t), () -> first(model.redexes(term(t), true)));
            case 24 -> same("outermostRedex", () -> bench.outermostRedex(t), () -> first(model.redexes(term(t), false)));
            case 25 -> same("isNormalForm", () -> bench.isNormalForm(t), () -> model.redexes(term(t), true).isEmpty());
            case 26 -> same("normalShare", bench::normalShare, () -> {
                system();
                long normal = model.terms.stream().filter(tree -> model.redexes(tree, true).isEmpty()).count();
                return model.terms.isEmpty() ? 0.0f : (float) normal / (float) model.terms.size();
            });
            case 27 -> same("stepsInnermost", () -> bench.stepsInnermost(t),
                    () -> steps(model.reduction(term(t), true, 200)));
            case 28 -> same("stepsOutermost", () -> bench.stepsOutermost(t),
                    () -> steps(model.reduction(term(t), false, 200)));
            case 29 -> same("normalFormSize", () -> bench.normalFormSize(t), () -> sizeOf(model.normal(term(t), 200)));
            case 30 -> same("haveSameNormalForm", () -> bench.haveSameNormalForm(t, t2), () -> {
                term(t2);
                Model.Tree normal = model.normal(term(t), 200);
                return normal != null && normal.equals(model.normal(term(t2), 200));
            });
            default -> {
                Map<String, Model.Tree> by = new HashMap<>();
                same("unify", () -> bench.unify(t, t2),
                        () -> Model.unify(term(t).renamed("1"), term(t2).renamed("2"), by));
                same("unifiedSize", () -> bench.unifiedSize(t, t2), () -> {
                    by.clear();
                    Model.Tree one = term(t).renamed("1");
                    if (!Model.unify(one, term(t2).renamed("2"), by)) {
                        return -1;
                    }
                    double size = Model.sizeUnder(one, by, new HashMap<>());
                    return size > 80 ? -1 : (int) size;
                });
            }
        }
    }

    private void pairsAndOutput(int which, int r, int t, int t2) {
        int pairs = model.loaded ? model.pairs().size() : 0;
        int pair = some(pairs);
        switch (which) {
            case 32 -> same("criticalPairCount", bench::criticalPairCount, () -> {
                system();
                return pairs;
            });
            case 33 -> {
                same("pairOuterRule", () -> bench.pairOuterRule(pair), () -> pair(pair).outer());
                same("pairInnerRule", () -> bench.pairInnerRule(pair), () -> pair(pair).inner());
                same("pairPosition", () -> bench.pairPosition(pair), () -> pair(pair).position());
            }
            case 34 -> same("pairJoins", () -> bench.pairJoins(pair), () -> model.joins(pair(pair)));
            case 35 -> same("unjoinedPairs", bench::unjoinedPairs, () -> {
                system();
                return (int) model.pairs().stream().filter(each -> !model.joins(each)).count();
            });
            case 36 -> same("writeTerm", () -> bench.writeTerm(t), () -> written(term(t).text()));
            case 37 -> same("writeRule", () -> bench.writeRule(r), () -> written(rule(r).text()));
            case 38 -> same("writeNormalForm", () -> bench.writeNormalForm(t), () -> {
                Model.Tree normal = model.normal(term(t), 200);
                return written(normal == null ? "?" : normal.text());
            });
            case 39, 40 -> same("writePair", () -> bench.writePair(pair),
                    () -> written(pair(pair).first().text() + "<>" + pair(pair).second().text()));
            default -> {
                int index = some(model.output.length());
                same("outputByte", () -> bench.outputByte(index), () -> {
                    index(index, model.output.length());
                    return (int) model.output.charAt(index);
                });
            }
        }
        if (which >= 36) {
            readOutput();
        }
    }

    private void readOutput() {
        for (int i = 0; i < model.output.length() && i < 12; i++) {
            int index = below(model.output.length());
            same("outputByte", () -> bench.outputByte(index), () -> (int) model.output.charAt(index));
        }
    }

    private void change(int which, int r, int r2, int t, int t2, int p, int slot) {
        switch (which) {
            case 42, 43 -> same("rewrite", () -> bench.rewrite(r, t, p), () -> {
                Model.TwoSides rule = rule(r);
                node(t, p);
                Model.Tree next = Model.rewritten(rule, term(t), p);
                require(next != null && next.size() <= 80);
                return change(next.size(), () -> model.terms.set(t, next));
            });
            case 44, 45 -> step(t, true);
            case 46, 47 -> step(t, false);
            case 48 -> same("normalize", () -> bench.normalize(t), () -> {
                List<Model.Tree> trees = model.reduction(term(t), true, 200);
                require(trees != null);
                return change(trees.size() - 1, () -> model.terms.set(t, trees.get(trees.size() - 1)));
            });
            case 49 -> same("copySubterm", () -> bench.copySubterm(t, p), () -> {
                Model.Tree part = node(t, p);
                require(model.terms.size() < 6);
                return change(model.terms.size(), () -> model.terms.add(part));
            });
            case 50, 51 -> same("replaceSubterm", () -> bench.replaceSubterm(t, p, t2), () -> {
                node(t, p);
                Model.Tree next = term(t).with(p, term(t2));
                require(next.size() <= 80);
                return change(next.size(), () -> model.terms.set(t, next));
            });
            case 52 -> same("swapRules", () -> bench.swapRules(r, r2), () -> {
                Model.TwoSides rule = rule(r);
                Model.TwoSides other = rule(r2);
                change(0, () -> {
                    model.rules.set(r, other);
                    model.rules.set(r2, rule);
                });
                return model.terms.stream().mapToInt(tree -> model.redexes(tree, true).size()).sum();
            });
            case 53 -> {
                if (below(3) == 0) {
                    same("removeRule", () -> bench.removeRule(r), () -> {
                        rule(r);
                        return change(model.rules.size() - 1, () -> model.rules.remove(r));
                    });
                }
            }
            case 54, 55 -> same("reverseRule", () -> bench.reverseRule(r), () -> {
                Model.TwoSides rule = rule(r);
                require(rule.canTurn());
                return change(rule.right().size(), () -> model.rules.set(r, new Model.TwoSides(rule.right(), rule.left())));
            });
            case 56 -> same("removeTerm", () -> bench.removeTerm(t), () -> {
                term(t);
                return change(model.terms.size() - 1, () -> model.terms.remove(t));
            });
            case 57, 58 -> same("undo", bench::undo, () -> {
                if (model.undo.isEmpty()) {
                    throw new IllegalStateException();
                }
                model.adopt(model.undo.pop());
                return model.undo.size();
            });
            case 59 -> same("undoCount", bench::undoCount, () -> model.undo.size());
            case 60 -> same("saveState", () -> bench.saveState(slot), () -> {
                system();
                index(slot, 2);
                model.saved[slot] = Model.Snapshot.of(model);
                return model.terms.size();
            });
            case 61 -> same("restoreState", () -> bench.restoreState(slot), () -> {
                index(slot, 2);
                if (model.saved[slot] == null) {
                    throw new IllegalStateException();
                }
                model.adopt(model.saved[slot]);
                model.undo.clear();
                return model.terms.size();
            });
            default -> {
                int length = below(3) == 0 ? 0 : below(600) - 10;
                if (below(8) == 0) {
                    parse(length);
                }
            }
        }
    }

    private void step(int t, boolean innermost) {
        same("step", () -> innermost ? bench.stepInnermost(t) : bench.stepOutermost(t), () -> {
            List<Integer> redexes = model.redexes(term(t), innermost);
            Model.Tree next = model.stepped(term(t), innermost);
            require(next != null);
            return change(redexes.get(0), () -> model.terms.set(t, next));
        });
    }

    // ---- texts

    private String mutated(String text) {
        StringBuilder changed = new StringBuilder(text);
        String signs = ";=,()ABHI019 azfg" + (char) 0 + (char) 200;
        for (int i = below(3); i >= 0 && changed.length() > 0; i--) {
            int at = below(changed.length());
            char sign = signs.charAt(below(signs.length()));
            switch (below(4)) {
                case 0 -> changed.deleteCharAt(at);
                case 1 -> changed.insert(at, sign);
                case 2 -> changed.setCharAt(at, sign);
                default -> changed.setLength(at + 1);
            }
        }
        return changed.length() > 500 ? changed.substring(0, 500) : changed.toString();
    }

    private void texts(int count) {
        for (int i = 0; i < count; i++) {
            if (calls > CALLS - MOST_AT_ONCE) {
                bench = new OverlapBench();
                model = new Model();
                buffer = new StringBuilder();
                calls = 0;
            }
            String text = mutated(below(3) == 0 ? HardText.make(random) : SystemText.make(random));
            log = text;
            feed(text);
            parse(text.length());
        }
    }
}
