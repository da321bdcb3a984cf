import java.lang.management.ManagementFactory;
import java.lang.reflect.Method;
import java.lang.reflect.Modifier;
import java.nio.file.Files;
import java.nio.file.Path;
import java.util.Arrays;
import java.util.Map;
import java.util.TreeMap;
import java.util.regex.Matcher;
import java.util.regex.Pattern;

/** The class keeps to its part of Java, makes nothing in its calls, and never throws. Takes the source's path. */
public final class LanguageTests {
    private static final int[] EXTREMES = {Integer.MIN_VALUE, -1000001, -64, -2, -1, 0, 1, 2, 5, 6, 8, 9, 20, 63, 64, 100, Integer.MAX_VALUE};
    private static final String[] STATES = {
        "", "mark 5 5;", "within 9;mark 0 0;mark 99 99;goal 1 1 0;lie 5 0 99 99;err 4 0 0 18;", "mark 1 1;lie 0 0 2 2;lie 3 0 4 4;",
        "mark 1 1;mark 2 2;mark 3 3;mark 4 4;mark 5 5;mark 6 6;mark 7 7;mark 8 8;mark 9 9;goal 8 7 6;lie 0 0 50 50;lie 5 8 60 60;prize 0;"};

    private LanguageTests() {
    }

    public static void main(String[] args) throws Exception {
        source(Files.readString(Path.of(args.length > 0 ? args[0] : "src/main/java/SixMaps.java")));
        neverThrows();
        makesNothing();
        Check.end();
    }

    private static void source(String source) {
        String code = source.replaceAll("(?s)/\\*.*?\\*/", "").replaceAll("//.*", "").replaceAll("\"[^\"]*\"", "\"\"");
        String[] refused = {"\\bthrow\\b", "\\bthrows\\b", "\\btry\\b", "\\bcatch\\b", "\\bfinally\\b", "\\bsynchronized\\b", "\\bassert\\b",
            "->", "::", "@", "\\bpackage\\b", "\\bprotected\\b", "Exact\\b", "\\bThread\\b", "\\bSystem\\.(?!arraycopy)", "\\bRandom\\b",
            "\\bprintln\\b", "\\binterface\\b.*\\bdefault\\b", "\\bnull\\b", "\\bInteger\\.(?!bitCount)",
            "\\bMath\\.(?!max|min|abs)", "\\bArrays\\.(?!fill)", "\\bstatic\\s*\\{"};
        for (String word : refused) {
            Matcher m = Pattern.compile(word).matcher(code);
            Check.holds("the source has no " + word, !m.find());
        }
        Check.holds("its signs are plain", source.chars().allMatch(c -> c == '\n' || c >= 32 && c < 127));
        Matcher imports = Pattern.compile("import ([^;]*);").matcher(code);
        while (imports.find()) {
            Check.holds("import of " + imports.group(1), "java.util.Arrays".equals(imports.group(1)));
        }
        methods(code.split("\n"));
    }

    /** A method ends at the first line that closes at the depth at which it opened. */
    private static void methods(String[] lines) {
        Map<String, String> bodies = new TreeMap<>();
        for (int i = 0; i < lines.length; i++) {
            Matcher m = Pattern.compile("^(\\s+)[a-zA-Z\\[\\] ]+ (\\w+)\\(([^)]*)\\) \\{$").matcher(lines[i]);
            if (m.find() && !lines[i].matches("\\s*(}? ?else )?(if|for|while|switch).*")) {
                int end = i;
                while (end < lines.length && !lines[end].equals(m.group(1) + "}")) {
                    end++;
                }
                Check.holds("short: " + lines[i].trim(), end - i < 60);
                Check.holds("at most seven parameters: " + lines[i].trim(), m.group(3).split(",").length <= 7);
                String body = String.join("\n", Arrays.asList(lines).subList(i + 1, end));
                bodies.merge(m.group(2), body, (a, b) -> a + "\n" + b);
            }
        }
        for (String name : bodies.keySet()) {
            Check.holds(name + "() goes at most eight deep", depth(name, bodies, 1) <= 8);
        }
    }

    /** Methods of one name are taken as one; a call of the library is one deep. Recursion would be deeper than any bound. */
    private static int depth(String name, Map<String, String> bodies, int at) {
        if (at > 20 || !bodies.containsKey(name)) {
            return 1;
        }
        int deepest = 0;
        Matcher call = Pattern.compile("\\b([a-z]\\w*)\\(").matcher(bodies.get(name));
        while (call.find()) {
            deepest = Math.max(deepest, depth(call.group(1), bodies, at + 1));
        }
        return 1 + deepest;
    }

    private static void neverThrows() throws Exception {
        for (String state : STATES) {
            for (Method m : SixMaps.class.getDeclaredMethods()) {
                if (Modifier.isPublic(m.getModifiers())) {
                    tryAll(state, m, new Object[m.getParameterCount()], 0);
                }
            }
        }
    }

    private static void tryAll(String state, Method m, Object[] arguments, int i) throws Exception {
        if (i == arguments.length) {
            SixMaps x = new SixMaps();
            Check.feed(x, state);
            x.island();
            x.say(0, 0, true);
            m.invoke(x, arguments);
            m.invoke(x, arguments);
            return;
        }
        Class<?> type = m.getParameterTypes()[i];
        if (type == boolean.class) {
            arguments[i] = true;
            tryAll(state, m, arguments, i + 1);
            return;
        }
        // Four numbers would be tried too often for little: every third one stands for them.
        for (int j = 0; j < EXTREMES.length; j += arguments.length > 3 ? 3 : 1) {
            arguments[i] = EXTREMES[j];
            if (type == long.class) {
                arguments[i] = (long) EXTREMES[j] << 31;
            }
            tryAll(state, m, arguments, i + 1);
        }
    }

    /** All calls of a run share one room, so only the constructor may make anything. */
    private static void makesNothing() {
        com.sun.management.ThreadMXBean room = (com.sun.management.ThreadMXBean) ManagementFactory.getThreadMXBean();
        SixMaps x = Check.told(STATES[4]);
        dearCalls(x);
        long before = room.getCurrentThreadAllocatedBytes();
        dearCalls(x);
        long made = room.getCurrentThreadAllocatedBytes() - before;
        Check.holds("calls make nothing, but " + made + " bytes were made", made < 2000);
    }

    private static void dearCalls(SixMaps x) {
        for (int i = 0; i < 30; i++) {
            x.feed(8, 0x6D61726B20312031L);
            x.island();
            x.keep(0);
            x.hunt(1);
            x.bestCorner(i % 6, 2);
            x.corner(0, 1, 1);
            x.found(i % 6);
            x.may(i % 6, 0);
            x.best(i % 6, 3);
            x.spades(i % 6);
            x.say(0, 0, true);
            x.saying(0, 1);
            x.loudest();
            x.goBack(0);
        }
    }
}
