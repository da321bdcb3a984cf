import java.io.IOException;
import java.nio.file.DirectoryStream;
import java.nio.file.Files;
import java.nio.file.Path;
import java.util.ArrayList;
import java.util.Arrays;
import java.util.List;
import java.util.Map;
import java.util.Set;
import java.util.TreeMap;
import java.util.regex.Matcher;
import java.util.regex.Pattern;

/** Every word of 'Terms' and of the promises is quoted by a test: by("Promise 2", "OUTSIDE, FULL (400)."); what is asked there it cannot see. */
public final class CoverTests {
    private static final Path TESTS = Path.of("src/test/java");
    private static final Pattern QUOTE = Pattern.compile("\\bby\\(\"([^\"]*)\",\\s*((?:\"[^\"]*\"[\\s+]*)+)\\)");
    /** FaceTests reads the face as it stands; what is free is not asked. */
    private static final Set<String> READ_WHOLE = Set.of("", "The public face", "Not promised");
    /** What a test cannot ask: what it is about, how it is written; and what FaceTests reads: calls, remarks. */
    private static final String[] NOT_ASKED = {
        "Six maps of which two lie: .* images to go on from\\.", "what later calls answer is free\\.",
        "Words in capitals are told where they come first\\.", "^`[^`]*`:", "======== \\d", "```text", "Ahead of the calls [^.]*\\."};

    private CoverTests() {
    }

    public static void main(String[] args) throws IOException {
        Map<String, List<String>> quotes = quotes();
        Check.due("promises", Doc.parts().stream().filter(p -> p.startsWith("Promise ")).count(), Doc.PROMISES);
        Check.due("parts of 'Terms'", Doc.parts().stream().filter(p -> p.startsWith("Terms")).count(), 4);
        for (String part : Doc.parts()) {
            if (!READ_WHOLE.contains(part)) {
                String left = leftOf(part, quotes.getOrDefault(part, List.of()));
                Check.holds(part + " is quoted by a test: " + left, left.isEmpty());
            }
        }
        Check.end();
    }

    private static Map<String, List<String>> quotes() throws IOException {
        Map<String, List<String>> quotes = new TreeMap<>();
        try (DirectoryStream<Path> files = Files.newDirectoryStream(TESTS, "*EdgeTests.java")) {
            for (Path file : files) {
                Matcher m = QUOTE.matcher(Files.readString(file));
                while (m.find()) {
                    quotes.computeIfAbsent(m.group(1), p -> new ArrayList<>()).add(m.group(2).replaceAll("\"[\\s+]*(\"|$)", "").substring(1));
                }
            }
        }
        return quotes;
    }

    /** Words and numbers of a part that no quote has. */
    private static String leftOf(String part, List<String> quotes) {
        String text = Doc.textOf(part).trim();
        boolean[] asked = new boolean[text.length()];
        for (String quote : quotes) {
            for (int at = text.indexOf(quote); at >= 0 && !quote.isEmpty(); at = text.indexOf(quote, at + 1)) {
                Arrays.fill(asked, at, at + quote.length(), true);
            }
        }
        for (String pattern : NOT_ASKED) {
            Matcher m = Pattern.compile(pattern).matcher(text);
            while (m.find()) {
                Arrays.fill(asked, m.start(), m.end(), true);
            }
        }
        StringBuilder left = new StringBuilder();
        for (int i = 0; i < text.length(); i++) {
            left.append(asked[i] ? '|' : text.charAt(i));
        }
        return left.toString().replaceAll("\\|[^A-Za-z0-9|]*(?=\\|)", "").replaceAll("^[^A-Za-z0-9]*|[^A-Za-z0-9]*$", "");
    }
}
