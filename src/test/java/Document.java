import java.io.IOException;
import java.nio.file.Files;
import java.nio.file.Path;
import java.util.ArrayList;
import java.util.LinkedHashMap;
import java.util.List;
import java.util.Map;
import java.util.Set;

/** The sentences of ../shared/DOC.md, by the section in which they stand. */
final class Document {
    private static final Path PLACE = Path.of("../shared/DOC.md");

    private final Map<String, List<String>> sections = new LinkedHashMap<>();

    Document() throws IOException {
        for (String section : Files.readString(PLACE).split("(?m)^## ")) {
            int head = section.indexOf('\n');
            String title = section.substring(0, head).replaceAll(":.*", "").trim();
            sections.put(title, sentences(section.substring(head)));
        }
    }

    Set<String> sections() {
        return sections.keySet();
    }

    List<String> of(String section) {
        return sections.getOrDefault(section, List.of());
    }

    /** The text with one blank between words and without the full stop. */
    static String plain(String text) {
        return text.trim().replaceAll("\\s+", " ").replaceAll("\\.$", "");
    }

    private static List<String> sentences(String text) {
        List<String> sentences = new ArrayList<>();
        for (String paragraph : text.split("\n\\s*\n|\n(?=- )")) {
            // A promise begins with its method, and an argument with its name.
            String words = paragraph.trim().replaceFirst("^(- )?`\\w[^`]*`: ", "");
            for (String sentence : words.split("(?<=\\.)\\s+(?=[A-Z])")) {
                if (!sentence.isBlank()) {
                    sentences.add(plain(sentence));
                }
            }
        }
        return sentences;
    }
}
