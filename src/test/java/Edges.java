import java.io.IOException;
import java.nio.file.Files;
import java.nio.file.Path;
import java.util.HashMap;
import java.util.HashSet;
import java.util.Map;
import java.util.Set;

/**
 * The document's sentences that name an edge, each with a test of its own. A sentence is quoted
 * word by word, so that one that the document does not have (any more) is found out, as is an
 * exception of the document that no test quotes.
 */
final class Edges {
    private static final Path DOCUMENT = Path.of("../shared/DOC.md");

    private final Check check;
    // The text of each section by its heading, which is cut at the colon: "Terms", "Promise 6".
    private final Map<String, String> sections = new HashMap<>();
    private final Map<String, Set<String>> quoted = new HashMap<>();

    Edges(Check check) throws IOException {
        this.check = check;
        for (String section : Files.readString(DOCUMENT).split("\n## ")) {
            int end = section.indexOf('\n');
            sections.put(section.substring(0, end).split(":")[0], section.substring(end));
        }
    }

    void of(String section, String sentence, Runnable test) {
        String text = sections.getOrDefault(section, "");
        check.due(section + " says: " + sentence, true, () -> text.contains(sentence));
        quoted.computeIfAbsent(section, none -> new HashSet<>()).add(sentence);
        check.heading(section + ", " + sentence);
        test.run();
        check.heading("");
    }

    /** Each section of a promise is quoted, and each line in it that tells an exception. */
    void dueAllQuoted() {
        for (String section : sections.keySet()) {
            if (section.startsWith("Promise ")) {
                Set<String> there = quoted.getOrDefault(section, Set.of());
                check.due(section + " is quoted", false, there::isEmpty);
                for (String line : sections.get(section).split("\n")) {
                    if (line.startsWith("Throws ")) {
                        check.due(section + " is quoted: " + line, true, () -> there.contains(line));
                    }
                }
            }
        }
    }
}
