import java.io.IOException;
import java.nio.file.Files;
import java.nio.file.Path;
import java.util.ArrayList;
import java.util.LinkedHashMap;
import java.util.List;
import java.util.Map;

/**
 * The document, cut into sentences, and the tests' book about them: each sentence is tested at its edges or named as
 * one without an edge. A sentence is named by its part ("3" is section 3, "P29" is promise 29) and some of its words.
 */
final class Doc {
    private static final String CUT = "(?<=[.;])\\s+(?=[A-Za-z`\"])";

    private final Map<String, List<String>> parts = new LinkedHashMap<>();
    private final Map<String, Boolean> told = new LinkedHashMap<>();
    private String part = "";
    private final StringBuilder paragraph = new StringBuilder();
    private int checksBefore = -1;

    Doc(Path document) throws IOException {
        boolean code = false;
        for (String line : Files.readAllLines(document)) {
            boolean fence = line.startsWith("```");
            code ^= fence;
            if (fence || code) {
                endParagraph();
            } else if (line.startsWith("## ")) {
                begin(line.substring(3).replaceFirst("^Promise (\\d+):.*", "P$1"));
            } else if (line.matches("\\d\\. [A-Z].*") && !part.startsWith("P")) {
                begin(line.substring(0, 1));
            } else {
                takeLine(line);
            }
        }
        endParagraph();
        parts.remove("");
        parts.remove("Not promised");
    }

    private void takeLine(String line) {
        if (line.startsWith("The constants:")) {
            begin("constants");
        } else if (line.isBlank() || line.startsWith("- ")) {
            endParagraph();
        }
        paragraph.append(line.strip()).append(' ');
    }

    private void begin(String name) {
        endParagraph();
        part = name;
    }

    private void endParagraph() {
        for (String sentence : paragraph.toString().strip().split(CUT)) {
            if (!sentence.isEmpty()) {
                parts.computeIfAbsent(part, key -> new ArrayList<>()).add(sentence);
            }
        }
        paragraph.setLength(0);
    }

    /** The checks that follow, up to the next sentence, are those of this one. */
    void edge(String where, String words) {
        closeEdge();
        Check.about = where + ": " + find(where, words);
        checksBefore = Check.made();
        told.put(Check.about, true);
    }

    /** These sentences name no edge; the tests of the promises have what they say. */
    void plain(String where, String... words) {
        for (String each : words) {
            told.putIfAbsent(where + ": " + find(where, each), false);
        }
    }

    /** Whether a part has exactly one sentence with these words. */
    boolean has(String where, String words) {
        return parts.getOrDefault(where, List.of()).stream().filter(s -> s.contains(words)).count() == 1;
    }

    private String find(String where, String words) {
        if (!has(where, words)) {
            throw new IllegalStateException("no single sentence in " + where + " has: " + words);
        }
        return parts.get(where).stream().filter(s -> s.contains(words)).findFirst().orElseThrow();
    }

    private void closeEdge() {
        if (checksBefore >= 0 && checksBefore == Check.made()) {
            Check.due(Check.about, "has no check", "has a check of its own");
        }
        checksBefore = -1;
        Check.about = "";
    }

    /** Every sentence must have been told. */
    void finish() {
        closeEdge();
        int sentences = 0;
        for (Map.Entry<String, List<String>> entry : parts.entrySet()) {
            for (String sentence : entry.getValue()) {
                String key = entry.getKey() + ": " + sentence;
                Check.due(key, told.containsKey(key) ? "told" : "not told", "told");
                sentences++;
            }
        }
        long tested = told.values().stream().filter(edge -> edge).count();
        System.out.println(sentences + " sentences, " + tested + " of them tested at their edges");
    }
}
