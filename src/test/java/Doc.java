import java.io.IOException;
import java.nio.file.Files;
import java.nio.file.Path;
import java.util.LinkedHashMap;
import java.util.Map;

/** The document, cut into its parts, so that a test can't name a sentence that doesn't stand there. */
final class Doc {
    private final Map<String, String> parts = new LinkedHashMap<>();

    Doc(Path file) {
        String part = "";
        try {
            for (String line : Files.readAllLines(file)) {
                part = partOf(line, part);
                parts.merge(part, line, (before, more) -> before + " " + more);
            }
        } catch (IOException e) {
            throw new IllegalStateException("there is no document to look the sentences up in: " + file, e);
        }
        parts.replaceAll((name, words) -> words.replaceAll("\\s+", " "));
    }

    /** "Promise 3", "Terms II" or a heading as it stands. */
    private static String partOf(String line, String before) {
        if (line.startsWith("## Promise ")) {
            return line.substring(3, line.indexOf(':'));
        }
        if (line.startsWith("==== ")) {
            return "Terms " + line.substring(5, line.indexOf('.'));
        }
        return line.startsWith("## ") ? line.substring(3) : before;
    }

    boolean says(String part, String words) {
        return parts.getOrDefault(part, "").contains(words);
    }
}
