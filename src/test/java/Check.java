import java.nio.charset.StandardCharsets;
import java.util.Objects;

/** What the tests share: feeding texts, comparing answers, and the exit code. */
final class Check {
    private static int wrong = 0;
    private static int made = 0;
    /** What the checks are about, for the reader of a wrong answer. */
    static String about = "";

    interface Call {
        Object run();
    }

    static final Class<?> ILLEGAL_STATE = IllegalStateException.class;
    static final Class<?> OUT_OF_BOUNDS = IndexOutOfBoundsException.class;
    static final Class<?> ILLEGAL_ARGUMENT = IllegalArgumentException.class;

    private Check() {
    }

    /** The number of checks so far. */
    static int made() {
        return made;
    }

    static void due(String what, Object got, Object want) {
        made++;
        if (!Objects.equals(got, want)) {
            wrong++;
            System.out.println((about.isEmpty() ? "" : "[" + about + "] ") + what + ": got " + got + ", due is " + want);
        }
    }

    /** The exact class counts: a subclass would be one that the machine threw. */
    static void throwsExactly(String what, Class<?> type, Call call) {
        Object got;
        try {
            got = call.run();
        } catch (RuntimeException e) {
            got = e.getClass();
        }
        due(what, got, type);
    }

    /** Appends a text, whose characters are bytes, filled up with spaces to a multiple of twenty. */
    static void feed(OverlapBench bench, String text) {
        byte[] bytes = text.getBytes(StandardCharsets.ISO_8859_1);
        for (int at = 0; at < bytes.length; at += 20) {
            int[] words = new int[5];
            for (int i = 0; i < 20; i++) {
                int value = at + i < bytes.length ? bytes[at + i] & 255 : ' ';
                words[i / 4] = words[i / 4] << 8 | value;
            }
            bench.append(words[0], words[1], words[2], words[3], words[4]);
        }
    }

    /** Feeds and parses; answers the number of rules, or the class of what was thrown. */
    static Object parse(OverlapBench bench, String text) {
        feed(bench, text);
        try {
            return bench.parseSystem(text.length());
        } catch (RuntimeException e) {
            return e.getClass();
        }
    }

    static OverlapBench load(String text) {
        OverlapBench bench = new OverlapBench();
        Object got = parse(bench, text);
        if (!(got instanceof Integer)) {
            wrong++;
            System.out.println("does not parse: " + text + " (code " + bench.parseErrorCode() + " at "
                    + bench.parseErrorPosition() + ")");
        }
        return bench;
    }

    /** The bar in the text marks where the error is due, and is not part of the text. */
    static void refused(int code, String marked) {
        int position = marked.indexOf('|');
        refusedAt(code, marked.substring(0, position) + marked.substring(position + 1), position);
    }

    static void refusedAt(int code, String text, int position) {
        OverlapBench bench = new OverlapBench();
        due("refuses " + text, parse(bench, text), ILLEGAL_ARGUMENT);
        due("code of " + text, bench.parseErrorCode(), code);
        due("position of " + text, bench.parseErrorPosition(), position);
        throwsExactly("no system after " + text, ILLEGAL_STATE, bench::ruleCount);
    }

    static void taken(String text, String system) {
        OverlapBench bench = load(text);
        due("code of " + text, bench.parseErrorCode(), 0);
        due("position of " + text, bench.parseErrorPosition(), OverlapBench.NONE);
        due("system of " + text, system(bench), system);
    }

    static String output(OverlapBench bench, int length) {
        StringBuilder text = new StringBuilder();
        for (int i = 0; i < length; i++) {
            text.append((char) bench.outputByte(i));
        }
        throwsExactly("outputByte behind the output", OUT_OF_BOUNDS, () -> bench.outputByte(length));
        return text.toString();
    }

    /** Looks at the bytes at both ends and at each seventh one between: 512 calls are all that an object promises. */
    static void longOutput(String what, OverlapBench bench, int length, String text) {
        due(what + ", length", length, text.length());
        for (int i = 0; i < text.length(); i += i < 40 || i >= text.length() - 47 ? 1 : 7) {
            due(what + ", byte " + i, bench.outputByte(i), (int) text.charAt(i));
        }
        throwsExactly(what + ", behind it", OUT_OF_BOUNDS, () -> bench.outputByte(text.length()));
    }

    static String term(OverlapBench bench, int term) {
        return output(bench, bench.writeTerm(term));
    }

    static String rule(OverlapBench bench, int rule) {
        return output(bench, bench.writeRule(rule));
    }

    static String pair(OverlapBench bench, int pair) {
        return output(bench, bench.writePair(pair));
    }

    /** All rules and terms in one text. */
    static String system(OverlapBench bench) {
        StringBuilder text = new StringBuilder();
        for (int i = 0; i < bench.ruleCount(); i++) {
            text.append(rule(bench, i)).append(';');
        }
        for (int i = 0; i < bench.termCount(); i++) {
            text.append(term(bench, i)).append(';');
        }
        return text.toString();
    }

    static String repeat(String part, int times) {
        return part.repeat(times);
    }

    static void finish() {
        System.out.println(wrong == 0 ? "all answers are as due" : wrong + " answers are not as due");
        if (wrong != 0) {
            System.exit(1);
        }
    }
}
