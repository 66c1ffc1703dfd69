import java.io.IOException;
import java.nio.file.Files;
import java.nio.file.Path;
import java.util.ArrayList;
import java.util.Arrays;
import java.util.HashMap;
import java.util.List;
import java.util.Map;

/**
 * Each sentence of the document with a run of its own, from src/test/boundaries.txt. Every quote there
 * must be the document's, and every word of "Description" and of the promises must be quoted, so that
 * no sentence is left out and a changed document is noticed.
 */
public final class BoundaryTest {
    private static final Path CASES = Path.of("src/test/boundaries.txt");

    /** A section of the document, and which of its characters are quoted. */
    private static final class Section {
        final String title;
        final String words;
        final boolean[] quoted;

        Section(String title, String words) {
            this.title = title;
            this.words = words;
            this.quoted = new boolean[words.length()];
        }

        void quote(String part) {
            int at = words.indexOf(part);
            Calls.expect(at >= 0, title + ": the document does not say: " + part);
            while (at >= 0) {
                Arrays.fill(quoted, at, at + part.length(), true);
                at = words.indexOf(part, at + 1);
            }
        }

        void expectAllQuoted() {
            StringBuilder left = new StringBuilder();
            for (int i = 0; i < quoted.length; i++) {
                left.append(quoted[i] ? ' ' : words.charAt(i));
            }
            String rest = left.toString().replaceAll("[\\s;,.:-]+", " ").trim();
            Calls.expect(rest.isEmpty(), title + ": no run for: " + rest);
        }
    }

    public static void main(String[] args) throws IOException {
        Map<String, Section> sections = sections();
        Section section = null;
        String quote = null;
        List<String> lines = new ArrayList<>();
        for (String line : Files.readAllLines(CASES)) {
            boolean isCall = !line.isBlank() && "=>!#".indexOf(line.charAt(0)) < 0;
            if (isCall) {
                lines.add(line);
                continue;
            }
            runCase(section, quote, lines);
            quote = null;
            lines.clear();
            if (line.startsWith("== ")) {
                section = sections.get(line.substring(3).trim());
                Calls.expect(section != null, "the document has no section " + line);
            } else if (line.startsWith("> ") || line.startsWith("! ")) {
                section.quote(line.substring(2).trim());
                quote = line.startsWith("> ") ? line.substring(2).trim() : null;
            }
        }
        runCase(section, quote, lines);
        Calls.expect(sections.size() == 46, "the document has a description and 45 promises");
        for (Section each : sections.values()) {
            each.expectAllQuoted();
        }
        Calls.end();
    }

    private static void runCase(Section section, String quote, List<String> lines) {
        Calls.expect(quote == null || !lines.isEmpty(), "no calls for: " + quote);
        Calls.expect(quote != null || lines.isEmpty(), "no quote for: " + lines);
        if (quote != null && !lines.isEmpty()) {
            Calls.run(section.title + ", " + quote, lines.toArray(new String[0]));
        }
    }

    private static Map<String, Section> sections() {
        Map<String, Section> found = new HashMap<>();
        for (String text : Calls.document().split("(?m)^## ")) {
            String title = text.lines().findFirst().orElse("");
            if (title.equals("Description") || title.startsWith("Promise ")) {
                String signature = "(?m)^`[^`]*\\)`$";
                String words = text.substring(title.length()).replaceAll(signature, "").replaceAll("\\s+", " ").trim();
                found.put(title, new Section(title, words));
            }
        }
        return found;
    }
}
