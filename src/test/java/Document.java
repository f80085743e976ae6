import java.io.IOException;
import java.nio.file.Files;
import java.nio.file.Path;
import java.util.ArrayList;
import java.util.LinkedHashMap;
import java.util.List;
import java.util.Map;

/** ../shared/DOC.md by its sections, for tests that name the words they stand for. */
final class Document {
    private static final Path DOC = Path.of("../shared/DOC.md");

    /** By the heading without its marks: "Promise 2: tooth", "1. Comb and tunes". */
    private final Map<String, List<String>> sections = new LinkedHashMap<>();

    Document() throws IOException {
        List<String> lines = new ArrayList<>();
        for (String line : Files.readAllLines(DOC)) {
            if (line.startsWith("## ") || line.startsWith("== ")) {
                lines = new ArrayList<>();
                sections.put(line.substring(3).trim(), lines);
            } else {
                lines.add(line.trim());
            }
        }
    }

    private static String evenly(String text) {
        return text.replaceAll("\\s+", " ").trim();
    }

    boolean says(String section, String words) {
        List<String> lines = sections.get(section);
        return lines != null && evenly(String.join(" ", lines)).contains(evenly(words));
    }

    List<String> promises() {
        return sections.keySet().stream().filter(heading -> heading.startsWith("Promise ")).toList();
    }

    /** The rows that tell what a promise throws, and for what. */
    List<String> throwsRows(String section) {
        return sections.get(section).stream().filter(line -> line.startsWith("Throws ")).toList();
    }
}
