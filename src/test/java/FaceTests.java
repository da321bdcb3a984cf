import java.lang.reflect.Constructor;
import java.lang.reflect.Field;
import java.lang.reflect.Method;
import java.lang.reflect.Modifier;
import java.nio.file.Files;
import java.nio.file.Path;
import java.util.ArrayList;
import java.util.Arrays;
import java.util.List;
import java.util.Set;
import java.util.TreeSet;
import java.util.regex.Matcher;
import java.util.regex.Pattern;

/** 'The public face', as the document writes it out: all of it, and nothing else. Takes the source's path. */
public final class FaceTests {
    private static final Pattern METHOD = Pattern.compile("public (int \\w+\\([^)]*\\));");
    private static final Pattern CONSTANT = Pattern.compile("(\\w+) = (-\\d+)");
    private static final Pattern REMARK = Pattern.compile("Ahead of the calls ([^.]*) the interface says: (---- [^.]*)\\.");

    private final String face = Doc.textOf("The public face");
    private final List<String> headers = found(METHOD, face);
    private final String source;

    private FaceTests(String source) {
        this.source = source;
    }

    public static void main(String[] args) throws Exception {
        FaceTests t = new FaceTests(Files.readString(Path.of(args.length > 0 ? args[0] : "src/main/java/SixMaps.java")));
        Check.holds("the document has a face of 28 methods, but " + t.headers.size(), t.headers.size() == 28);
        t.constants();
        t.constructor();
        t.methods();
        t.headersAsWritten();
        t.promisesCallTheFace();
        t.remarks();
        t.inside();
        Check.end();
    }

    private static List<String> found(Pattern pattern, String text) {
        List<String> all = new ArrayList<>();
        Matcher m = pattern.matcher(text);
        while (m.find()) {
            all.add(m.group(1));
        }
        return all;
    }

    private void constants() throws Exception {
        Set<String> open = new TreeSet<>();
        for (Field f : SixMaps.class.getDeclaredFields()) {
            if (!Modifier.isPrivate(f.getModifiers())) {
                open.add(f.getName());
            }
            Check.holds(f + " is final, if it is static", !Modifier.isStatic(f.getModifiers()) || Modifier.isFinal(f.getModifiers()));
        }
        Matcher m = CONSTANT.matcher(face);
        Set<String> told = new TreeSet<>();
        while (m.find()) {
            told.add(m.group(1));
            Field f = SixMaps.class.getField(m.group(1));
            Check.holds(f + " is a constant", f.toString().startsWith("public static final int "));
            Check.due(m.group(1), f.getInt(null), Integer.parseInt(m.group(2)));
        }
        Check.holds("the constants are " + open, open.equals(told) && told.size() == 5);
    }

    private void constructor() {
        Check.holds("the document has a constructor", face.contains("public SixMaps();"));
        Constructor<?>[] made = SixMaps.class.getDeclaredConstructors();
        Check.holds("one constructor", made.length == 1 && made[0].getParameterCount() == 0 && Modifier.isPublic(made[0].getModifiers()));
        Check.holds("the document has a final class", face.contains("public final class SixMaps {"));
        Check.holds("public and final", Modifier.toString(SixMaps.class.getModifiers()).equals("public final"));
    }

    private void methods() {
        Set<String> due = new TreeSet<>();
        for (String header : headers) {
            due.add("public " + header.replaceAll("(int|long|boolean) \\w+([,)])", "$1$2"));
        }
        Set<String> seen = new TreeSet<>();
        for (Method m : SixMaps.class.getDeclaredMethods()) {
            if (Modifier.isPrivate(m.getModifiers())) {
                bearsNoNameOfTheFace(m);
            } else if (!m.isSynthetic()) {
                seen.add(m.toString().replace("SixMaps.", "").replace(",", ", "));
            }
        }
        Check.holds("the face is " + seen, seen.equals(due));
    }

    /** With the document's own names and in its order. */
    private void headersAsWritten() {
        int at = 0;
        for (String header : headers) {
            int next = source.indexOf("    public " + header + " {\n", at);
            Check.holds("it has, behind the ones ahead of it, public " + header, next >= 0);
            at = Math.max(at, next);
        }
    }

    private void promisesCallTheFace() {
        Check.holds("promise 1 calls SixMaps()", Doc.callOf(1).equals("SixMaps()"));
        for (int i = 2; i <= Doc.PROMISES; i++) {
            Check.holds("promise " + i + " calls " + headers.get(i - 2), Doc.callOf(i).equals(headers.get(i - 2)));
        }
    }

    private void remarks() {
        Matcher m = REMARK.matcher(Doc.textOf("Terms 3"));
        int calls = 0;
        while (m.find()) {
            int at = source.indexOf("    // " + m.group(2) + "\n");
            Check.holds("it has // " + m.group(2), at >= 0);
            String behind = at < 0 ? "" : source.substring(at + 8).replaceAll("(?s)\n    // ----.*", "");
            for (String name : found(Pattern.compile("`(\\w+)`"), m.group(1))) {
                calls++;
                Check.holds(name + "() stands behind // " + m.group(2), behind.contains("\n    public int " + name + "("));
            }
        }
        Check.due("calls behind a remark", calls, 28);
    }

    private void inside() {
        Check.holds("some twelve classes", SixMaps.class.getDeclaredClasses().length <= 11);
        for (Class<?> inside : SixMaps.class.getDeclaredClasses()) {
            Check.holds(inside + " is static, and not public", Modifier.isStatic(inside.getModifiers()) && !Modifier.isPublic(inside.getModifiers()));
            for (Field f : inside.getDeclaredFields()) {
                Check.holds(f + " is final, if it is static", !Modifier.isStatic(f.getModifiers()) || Modifier.isFinal(f.getModifiers()));
            }
            long fields = Arrays.stream(inside.getDeclaredFields()).filter(f -> !Modifier.isStatic(f.getModifiers())).count();
            Check.holds(inside + " has some twenty fields", fields <= 20);
            for (Method m : inside.getDeclaredMethods()) {
                bearsNoNameOfTheFace(m);
            }
        }
    }

    private void bearsNoNameOfTheFace(Method m) {
        Check.holds(m + " bears no name of the face", headers.stream().noneMatch(h -> h.startsWith("int " + m.getName() + "(")));
    }
}
