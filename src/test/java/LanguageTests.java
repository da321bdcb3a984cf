import java.lang.management.ManagementFactory;
import java.lang.reflect.Constructor;
import java.lang.reflect.Field;
import java.lang.reflect.Method;
import java.lang.reflect.Modifier;
import java.nio.file.Files;
import java.nio.file.Path;
import java.util.ArrayList;
import java.util.Arrays;
import java.util.List;
import java.util.Set;
import java.util.TreeSet;
import java.util.regex.Matcher;
import java.util.regex.Pattern;

/** The class keeps to its face and to its part of Java, makes nothing in its calls, and never throws. Takes the source's path. */
public final class LanguageTests {
    private static final String[] FACE = {
        "feed(int,long)", "island()", "fault()", "told(int)", "mark(int,int)", "map(int,int,int)", "leads(int,int)",
        "knows(int,int)", "show(int,int,int)", "trade(int,int,int,int)", "dig(int,int,int)", "purse(int)", "may(int,int)",
        "sure(int,int)", "area(int,int,int)", "best(int,int)", "corner(int,int,int)", "bestCorner(int,int)", "spades(int)",
        "found(int)", "say(int,int,boolean)", "forget()", "saying(int,int)", "loudest()", "hunt(int)", "seed(int)",
        "keep(int)", "goBack(int)"};
    private static final int[] EXTREMES = {Integer.MIN_VALUE, -1000001, -64, -2, -1, 0, 1, 2, 5, 6, 8, 9, 20, 63, 64, 100, Integer.MAX_VALUE};
    private static final String[] STATES = {
        "", "mark 5 5;", "within 9;mark 0 0;mark 99 99;goal 1 1 0;lie 5 0 99 99;err 4 0 0 18;", "mark 1 1;lie 0 0 2 2;lie 3 0 4 4;",
        "mark 1 1;mark 2 2;mark 3 3;mark 4 4;mark 5 5;mark 6 6;mark 7 7;mark 8 8;mark 9 9;goal 8 7 6;lie 0 0 50 50;lie 5 8 60 60;prize 0;"};

    private LanguageTests() {
    }

    public static void main(String[] args) throws Exception {
        face();
        source(Files.readString(Path.of(args.length > 0 ? args[0] : "src/main/java/SixMaps.java")));
        neverThrows();
        makesNothing();
        Check.end();
    }

    private static void face() {
        Set<String> seen = new TreeSet<>();
        for (Method m : SixMaps.class.getDeclaredMethods()) {
            if (!Modifier.isPrivate(m.getModifiers()) && !m.isSynthetic()) {
                List<String> types = new ArrayList<>();
                for (Class<?> type : m.getParameterTypes()) {
                    types.add(type.getName());
                }
                seen.add(m.getName() + "(" + String.join(",", types) + ")");
                Check.holds(m + " is public, of an object, and answers an int",
                        Modifier.isPublic(m.getModifiers()) && !Modifier.isStatic(m.getModifiers()) && m.getReturnType() == int.class);
            }
        }
        Check.holds("the face is " + seen, seen.equals(new TreeSet<>(Arrays.asList(FACE))));
        Set<String> open = new TreeSet<>();
        for (Field f : SixMaps.class.getDeclaredFields()) {
            if (!Modifier.isPrivate(f.getModifiers())) {
                open.add(f.getName());
            }
            Check.holds(f + " is final, if it is static", !Modifier.isStatic(f.getModifiers()) || Modifier.isFinal(f.getModifiers()));
        }
        Check.holds("the constants are " + open, open.equals(Set.of("NONE", "UNKNOWN", "OUTSIDE", "NOT", "FULL")));
        Constructor<?>[] made = SixMaps.class.getDeclaredConstructors();
        Check.holds("one constructor", made.length == 1 && made[0].getParameterCount() == 0 && Modifier.isPublic(made[0].getModifiers()));
        Check.holds("final", Modifier.isFinal(SixMaps.class.getModifiers()));
        Check.holds("some twelve classes", SixMaps.class.getDeclaredClasses().length <= 11);
        for (Class<?> inside : SixMaps.class.getDeclaredClasses()) {
            inside(inside);
        }
    }

    private static void inside(Class<?> inside) {
        Check.holds(inside + " is static", Modifier.isStatic(inside.getModifiers()));
        int fields = 0;
        for (Field f : inside.getDeclaredFields()) {
            boolean isStatic = Modifier.isStatic(f.getModifiers());
            Check.holds(f + " is final, if it is static", !isStatic || Modifier.isFinal(f.getModifiers()));
            fields += isStatic ? 0 : 1;
        }
        Check.holds(inside + " has some twenty fields", fields <= 20);
        for (Method m : inside.getDeclaredMethods()) {
            Check.holds(m + " bears no name of the face", Arrays.stream(FACE).noneMatch(f -> f.startsWith(m.getName() + "(")));
        }
    }

    private static void source(String source) {
        String code = source.replaceAll("(?s)/\\*.*?\\*/", "").replaceAll("//.*", "").replaceAll("\"[^\"]*\"", "\"\"");
        String[] refused = {"\\bthrow\\b", "\\bthrows\\b", "\\btry\\b", "\\bcatch\\b", "\\bfinally\\b", "\\bsynchronized\\b", "\\bassert\\b",
            "->", "::", "@", "\\bpackage\\b", "\\bprotected\\b", "Exact\\b", "\\bThread\\b", "\\bSystem\\.(?!arraycopy)", "\\bRandom\\b",
            "\\bprintln\\b", "\\binterface\\b.*\\bdefault\\b", "\\bnull\\b", "\\bInteger\\.(?!bitCount)",
            "\\bMath\\.(?!max|min|abs)", "\\bArrays\\.(?!fill)", "\\bstatic\\s*\\{"};
        for (String word : refused) {
            Matcher m = Pattern.compile(word).matcher(code);
            Check.holds("the source has no " + word, !m.find());
        }
        Check.holds("its signs are plain", source.chars().allMatch(c -> c == '\n' || c >= 32 && c < 127));
        Matcher imports = Pattern.compile("import ([^;]*);").matcher(code);
        while (imports.find()) {
            Check.holds("import of " + imports.group(1), "java.util.Arrays".equals(imports.group(1)));
        }
        methods(code.split("\n"));
    }

    /** A method ends at the first line that closes at the depth at which it opened. */
    private static void methods(String[] lines) {
        for (int i = 0; i < lines.length; i++) {
            Matcher m = Pattern.compile("^(\\s+)[a-zA-Z\\[\\] ]+\\(([^)]*)\\) \\{$").matcher(lines[i]);
            if (m.find() && !lines[i].matches("\\s*(}? ?else )?(if|for|while|switch).*")) {
                int end = i;
                while (end < lines.length && !lines[end].equals(m.group(1) + "}")) {
                    end++;
                }
                Check.holds("short: " + lines[i].trim(), end - i < 60);
                Check.holds("at most seven parameters: " + lines[i].trim(), m.group(2).split(",").length <= 7);
            }
        }
    }

    private static void neverThrows() throws Exception {
        for (String state : STATES) {
            for (Method m : SixMaps.class.getDeclaredMethods()) {
                if (Modifier.isPublic(m.getModifiers())) {
                    tryAll(state, m, new Object[m.getParameterCount()], 0);
                }
            }
        }
    }

    private static void tryAll(String state, Method m, Object[] arguments, int i) throws Exception {
        if (i == arguments.length) {
            SixMaps x = new SixMaps();
            Check.feed(x, state);
            x.island();
            x.say(0, 0, true);
            m.invoke(x, arguments);
            m.invoke(x, arguments);
            return;
        }
        Class<?> type = m.getParameterTypes()[i];
        if (type == boolean.class) {
            arguments[i] = true;
            tryAll(state, m, arguments, i + 1);
            return;
        }
        // Four numbers would be tried too often for little: every third one stands for them.
        for (int j = 0; j < EXTREMES.length; j += arguments.length > 3 ? 3 : 1) {
            arguments[i] = EXTREMES[j];
            if (type == long.class) {
                arguments[i] = (long) EXTREMES[j] << 31;
            }
            tryAll(state, m, arguments, i + 1);
        }
    }

    /** All calls of a run share one room, so only the constructor may make anything. */
    private static void makesNothing() {
        com.sun.management.ThreadMXBean room = (com.sun.management.ThreadMXBean) ManagementFactory.getThreadMXBean();
        SixMaps x = Check.told(STATES[4]);
        dearCalls(x);
        long before = room.getCurrentThreadAllocatedBytes();
        dearCalls(x);
        long made = room.getCurrentThreadAllocatedBytes() - before;
        Check.holds("calls make nothing, but " + made + " bytes were made", made < 2000);
    }

    private static void dearCalls(SixMaps x) {
        for (int i = 0; i < 30; i++) {
            x.feed(8, 0x6D61726B20312031L);
            x.island();
            x.keep(0);
            x.hunt(1);
            x.bestCorner(i % 6, 2);
            x.corner(0, 1, 1);
            x.found(i % 6);
            x.may(i % 6, 0);
            x.best(i % 6, 3);
            x.spades(i % 6);
            x.say(0, 0, true);
            x.saying(0, 1);
            x.loudest();
            x.goBack(0);
        }
    }
}
