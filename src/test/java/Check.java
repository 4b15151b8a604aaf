import java.nio.charset.StandardCharsets;
import java.util.Objects;

/** What the tests share: feeding texts, comparing answers, and the exit code. */
final class Check {
    private static int wrong = 0;

    interface Call {
        Object run();
    }

    static final Class<?> ILLEGAL_STATE = IllegalStateException.class;
    static final Class<?> OUT_OF_BOUNDS = IndexOutOfBoundsException.class;
    static final Class<?> ILLEGAL_ARGUMENT = IllegalArgumentException.class;

    private Check() {
    }

    static void due(String what, Object got, Object want) {
        if (!Objects.equals(got, want)) {
            wrong++;
            System.out.println(what + ": got " + got + ", due is " + want);
        }
    }

    /** The exact class counts: a subclass would be one that the machine threw. */
    static void throwsExactly(String what, Class<?> type, Call call) {
        Object got;
        try {
            got = call.run();
        } catch (RuntimeException e) {
            got = e.getClass();
        }
        due(what, got, type);
    }

    /** Appends a text, whose characters are bytes, filled up with spaces to a multiple of twenty. */
    static void feed(OverlapBench bench, String text) {
        byte[] bytes = text.getBytes(StandardCharsets.ISO_8859_1);
        for (int at = 0; at < bytes.length; at += 20) {
            int[] words = new int[5];
            for (int i = 0; i < 20; i++) {
                int value = at + i < bytes.length ? bytes[at + i] & 255 : ' ';
                words[i / 4] = words[i / 4] << 8 | value;
            }
            bench.append(words[0], words[1], words[2], words[3], words[4]);
        }
    }

    /** Feeds and parses; answers the number of rules, or the class of what was thrown. */
    static Object parse(OverlapBench bench, String text) {
        feed(bench, text);
        try {
            return bench.parseSystem(text.length());
        } catch (RuntimeException e) {
            return e.getClass();
        }
    }

    static OverlapBench load(String text) {
        OverlapBench bench = new OverlapBench();
        Object got = parse(bench, text);
        if (!(got instanceof Integer)) {
            wrong++;
            System.out.println("does not parse: " + text + " (code " + bench.parseErrorCode() + " at "
                    + bench.parseErrorPosition() + ")");
        }
        return bench;
    }

    static String output(OverlapBench bench, int length) {
        StringBuilder text = new StringBuilder();
        for (int i = 0; i < length; i++) {
            text.append((char) bench.outputByte(i));
        }
        throwsExactly("outputByte behind the output", OUT_OF_BOUNDS, () -> bench.outputByte(length));
        return text.toString();
    }

    static String term(OverlapBench bench, int term) {
        return output(bench, bench.writeTerm(term));
    }

    static String rule(OverlapBench bench, int rule) {
        return output(bench, bench.writeRule(rule));
    }

    static String pair(OverlapBench bench, int pair) {
        return output(bench, bench.writePair(pair));
    }

    /** All rules and terms in one text. */
    static String system(OverlapBench bench) {
        StringBuilder text = new StringBuilder();
        for (int i = 0; i < bench.ruleCount(); i++) {
            text.append(rule(bench, i)).append(';');
        }
        for (int i = 0; i < bench.termCount(); i++) {
            text.append(term(bench, i)).append(';');
        }
        return text.toString();
    }

    static String repeat(String part, int times) {
        return part.repeat(times);
    }

    static void finish() {
        System.out.println(wrong == 0 ? "all answers are as due" : wrong + " answers are not as due");
        if (wrong != 0) {
            System.exit(1);
        }
    }
}
