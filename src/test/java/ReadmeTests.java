import java.io.IOException;
import java.lang.reflect.Method;
import java.nio.file.DirectoryStream;
import java.nio.file.Files;
import java.nio.file.Path;
import java.util.ArrayList;
import java.util.List;
import java.util.Set;
import java.util.TreeSet;
import java.util.regex.Matcher;
import java.util.regex.Pattern;

/** What README.md says is so: its example answers as it says there, its lists are whole. */
public final class ReadmeTests {
    private static final Pattern BLOCK = Pattern.compile("(?s)```java\n(.*?)```");
    private static final Pattern ANSWER = Pattern.compile("(?s)^(.*);\\s*// (-?\\d+)(:.*)?$");
    private static final Pattern CALL = Pattern.compile("(?m)^\\| `(\\w+\\([^)]*\\))` \\| (\\d+) \\| \\S.* \\|$");

    private final String readme;

    private ReadmeTests(String readme) {
        this.readme = readme;
    }

    public static void main(String[] args) throws Exception {
        ReadmeTests t = new ReadmeTests(Files.readString(Path.of("README.md")));
        t.example();
        t.calls();
        t.tests();
        t.classes();
        t.files();
        Check.end();
    }

    /** A block that starts with 'static' is a function; of the others each call is made, and its answer told behind it. */
    private void example() throws ReflectiveOperationException {
        StringBuilder functions = new StringBuilder();
        StringBuilder calls = new StringBuilder();
        List<String> asked = new ArrayList<>();
        List<Long> due = new ArrayList<>();
        Matcher block = BLOCK.matcher(readme);
        while (block.find()) {
            if (block.group(1).startsWith("static")) {
                functions.append(block.group(1));
                continue;
            }
            for (String statement : statements(block.group(1))) {
                Matcher answer = ANSWER.matcher(statement);
                if (answer.matches()) {
                    calls.append("answers.add((long) (").append(answer.group(1)).append("));\n");
                    asked.add(answer.group(1));
                    due.add(Long.parseLong(answer.group(2)));
                } else {
                    Check.holds("it makes an object, or tells an answer: " + statement, statement.startsWith("SixMaps maps = new "));
                    calls.append(statement).append('\n');
                }
            }
        }
        Check.holds("there is an example", due.size() > 20);
        String source = "public class Example {\n" + functions + "public static java.util.List<Long> answers() {\n"
                + "java.util.List<Long> answers = new java.util.ArrayList<>();\n" + calls + "return answers;\n}\n}\n";
        List<?> got = (List<?>) Built.of("Example", source).loadClass("Example").getMethod("answers").invoke(null);
        for (int i = 0; i < due.size(); i++) {
            Check.due("README.md: " + asked.get(i), (Long) got.get(i), due.get(i));
        }
    }

    /** A line that is set in goes on with the one ahead of it. */
    private static List<String> statements(String block) {
        List<String> statements = new ArrayList<>();
        for (String line : block.split("\n")) {
            if (line.startsWith(" ")) {
                statements.set(statements.size() - 1, statements.get(statements.size() - 1) + "\n" + line);
            } else if (!line.isBlank()) {
                statements.add(line);
            }
        }
        return statements;
    }

    private void calls() {
        Set<String> due = new TreeSet<>();
        for (int i = 2; i <= Doc.PROMISES; i++) {
            due.add(i + " " + Doc.callOf(i).replaceAll("\\b(int|long|boolean) ", ""));
        }
        Set<String> told = new TreeSet<>();
        Matcher call = CALL.matcher(readme);
        int rows = 0;
        while (call.find()) {
            rows++;
            told.add(call.group(2) + " " + call.group(1));
        }
        Check.holds("the calls are " + told, told.equals(due));
        Check.due("rows of calls", rows, due.size());
        for (Method m : SixMaps.class.getMethods()) {
            if (m.getDeclaringClass() == SixMaps.class) {
                Check.holds("README.md has " + m.getName(), readme.contains("| `" + m.getName() + "("));
            }
        }
    }

    private void tests() throws IOException {
        Set<String> due = new TreeSet<>();
        try (DirectoryStream<Path> files = Files.newDirectoryStream(Path.of("src/test/java"), "*Tests.java")) {
            for (Path file : files) {
                due.add(file.getFileName().toString().replace(".java", ""));
            }
        }
        Set<String> told = new TreeSet<>();
        Matcher test = Pattern.compile("`(\\w+Tests)`").matcher(readme);
        while (test.find()) {
            told.add(test.group(1));
        }
        Check.holds("the tests are " + told, told.equals(due));
    }

    private void classes() {
        String built = readme.substring(Math.max(0, readme.indexOf("## How it is built")));
        Set<String> told = new TreeSet<>();
        Matcher name = Pattern.compile("`([A-Z][a-z]+)`").matcher(built);
        while (name.find()) {
            told.add(name.group(1));
        }
        Set<String> due = new TreeSet<>();
        for (Class<?> inside : SixMaps.class.getDeclaredClasses()) {
            due.add(inside.getSimpleName());
        }
        Check.holds("the classes inside are " + told, told.equals(due));
    }

    private void files() {
        for (String file : new String[] {"src/main/java/SixMaps.java", ".ci/run", "NOTES.md", "../shared/DOC.md", "../shared/LANGUAGE.md",
            "../shared/tests"}) {
            Check.holds("README.md tells of " + file, readme.contains(file));
            Check.holds("there is " + file, Files.exists(Path.of(file)));
        }
        Check.holds(".ci/run can be run", Files.isExecutable(Path.of(".ci/run")));
    }
}
