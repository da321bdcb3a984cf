import java.io.IOException;
import java.nio.file.Files;
import java.nio.file.Path;
import java.util.ArrayList;
import java.util.List;
import java.util.Map;
import java.util.TreeMap;
import java.util.regex.Matcher;
import java.util.regex.Pattern;

/** The document, cut into 'Terms', 'Terms 1' to 'Terms 3' and 'Promise 1' to 'Promise 29': a test quotes what it is of. */
final class Doc {
    static final int PROMISES = 29;

    private static final Path PATH = Path.of("../shared/DOC.md");
    private static final Map<String, List<String>> PARTS = read();

    private Doc() {
    }

    static boolean says(String part, String words) {
        return textOf(part).contains(words);
    }

    /** The lines of a part without its heading. */
    static List<String> linesOf(String part) {
        return PARTS.getOrDefault(part, List.of());
    }

    static String textOf(String part) {
        return String.join(" ", linesOf(part));
    }

    static List<String> parts() {
        return List.copyOf(PARTS.keySet());
    }

    /** What a promise calls: 'int feed(int n, long bytes)'. */
    static String callOf(int promise) {
        Matcher m = Pattern.compile("^`([^`]*)`:").matcher(textOf("Promise " + promise).trim());
        return m.find() ? m.group(1) : "";
    }

    private static Map<String, List<String>> read() {
        Map<String, List<String>> parts = new TreeMap<>();
        try {
            String part = "";
            for (String line : Files.readAllLines(PATH)) {
                part = partAt(line, part);
                if (!line.startsWith("#")) {
                    parts.computeIfAbsent(part, p -> new ArrayList<>()).add(line.trim());
                }
            }
        } catch (IOException e) {
            System.out.println("there is no " + PATH);
        }
        return parts;
    }

    private static String partAt(String line, String part) {
        if (line.startsWith("## ")) {
            return line.substring(3).replaceAll(":.*", "").trim();
        }
        return line.startsWith("======== ") ? "Terms " + line.charAt(9) : part;
    }
}
