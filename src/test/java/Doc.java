import java.io.IOException;
import java.nio.file.Files;
import java.nio.file.Path;
import java.util.Map;
import java.util.TreeMap;

/** The document, cut into 'Terms', 'Terms 1' to 'Terms 3' and 'Promise 1' to 'Promise 29': a test quotes what it is of. */
final class Doc {
    private static final Path PATH = Path.of("../shared/DOC.md");
    private static final Map<String, String> PARTS = read();

    private Doc() {
    }

    static boolean says(String part, String words) {
        return PARTS.getOrDefault(part, "").contains(words);
    }

    private static Map<String, String> read() {
        Map<String, String> parts = new TreeMap<>();
        try {
            String part = "";
            for (String line : Files.readAllLines(PATH)) {
                part = partAt(line, part);
                parts.merge(part, line.trim(), (a, b) -> a + " " + b);
            }
        } catch (IOException e) {
            System.out.println("there is no " + PATH);
        }
        return parts;
    }

    private static String partAt(String line, String part) {
        if (line.startsWith("## ")) {
            return line.substring(3).replaceAll(":.*", "").trim();
        }
        return line.startsWith("======== ") ? "Terms " + line.charAt(9) : part;
    }
}
