import java.io.IOException;
import java.nio.file.Files;
import java.nio.file.Path;
import java.util.LinkedHashMap;
import java.util.Map;

/** The sections of DOC.md, as one line of text each, without code and without rules of signs. */
final class Document {
    private final Map<String, String> sections = new LinkedHashMap<>();

    Document(Path path) throws IOException {
        for (String part : Files.readString(path).split("(?m)^## ")) {
            int end = part.indexOf('\n');
            if (end > 0) {
                sections.put(part.substring(0, end).trim(), plain(part.substring(end)));
            }
        }
    }

    private static String plain(String text) {
        return text.replaceAll("(?s)```java.*?```", " ")
                .replaceAll("(?m)^```.*$", " ")
                .replaceAll("(?m)^=+.*$", " ")
                .replaceAll("(?m)^`[^`]*`:", " ")
                .replaceAll("\\s+", " ")
                .trim();
    }

    /** The name of the section whose heading begins so ("Promise 1" is not "Promise 10"). */
    String nameOf(String beginning) {
        for (String name : sections.keySet()) {
            if (name.equals(beginning) || name.startsWith(beginning + ":")) {
                return name;
            }
        }
        return "";
    }

    String text(String name) {
        return sections.getOrDefault(name, "");
    }

    Iterable<String> names() {
        return sections.keySet();
    }
}
