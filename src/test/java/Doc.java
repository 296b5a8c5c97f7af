import java.io.IOException;
import java.nio.file.Files;
import java.nio.file.Path;
import java.util.ArrayList;
import java.util.LinkedHashMap;
import java.util.List;
import java.util.Map;

/** The document, term by term and promise by promise, and which of its words a test has quoted. */
final class Doc {
    private final Map<String, String> sections = new LinkedHashMap<>();
    private final Map<String, boolean[]> quoted = new LinkedHashMap<>();

    Doc(Path path) throws IOException {
        String name = "";
        boolean terms = false;
        for (String line : Files.readAllLines(path)) {
            if (line.startsWith("## ")) {
                terms = line.equals("## Terms");
                name = line.startsWith("## Promise ") ? line.substring(3).replaceAll(":.*", "") : "";
            } else if (terms && line.matches("\\d\\. .*")) {
                name = "Term " + line.charAt(0);
                sections.put(name, line.substring(3));
            } else if (!name.isEmpty() && !line.startsWith("```") && !line.startsWith("The constants: ")) {
                // A promise begins with its method's face, which LanguageTest holds.
                sections.merge(name, line.replaceFirst("^`[^`]*`: ", ""), (a, b) -> a + " " + b);
            }
        }
        sections.replaceAll((section, text) -> text.replaceAll("\\s+", " ").trim());
        sections.forEach((section, text) -> quoted.put(section, new boolean[text.length()]));
    }

    /** Whether a section says these words; they count as quoted then. */
    boolean says(String section, String words) {
        String text = sections.getOrDefault(section, "");
        int at = text.indexOf(words);
        for (int i = at; at >= 0 && i < at + words.length(); i++) {
            quoted.get(section)[i] = true;
        }
        return at >= 0;
    }

    int howMany() {
        return sections.size();
    }

    /** The words, section by section, that no test has quoted. */
    List<String> unquoted() {
        List<String> rows = new ArrayList<>();
        sections.forEach((section, text) -> {
            StringBuilder left = new StringBuilder();
            for (int i = 0; i < text.length(); i++) {
                left.append(quoted.get(section)[i] ? ' ' : text.charAt(i));
            }
            String words = left.toString().replaceAll("\\s+", " ").trim();
            if (words.matches(".*\\w.*")) {
                rows.add(section + ": " + words);
            }
        });
        return rows;
    }
}
