import java.lang.reflect.InvocationTargetException;
import java.lang.reflect.Method;
import java.nio.file.Files;
import java.nio.file.Path;
import java.util.ArrayList;
import java.util.Collection;
import java.util.Collections;
import java.util.List;
import java.util.Set;
import java.util.regex.Matcher;
import java.util.regex.Pattern;

/**
 * Breaks the promises one by one, and asks that another test notices each. A call is broken from outside, at its
 * first line, so the breaks hold for whatever is written inside. Takes the source's path.
 */
public final class BrokenTests {
    private static final Set<String> CHANGES = Set.of("feed", "island", "show", "trade", "dig", "say", "forget", "hunt", "seed",
            "keep", "goBack");
    /** The true SET always MAY LIE, so that these answers never come up: NOTES.md. */
    private static final Set<String> NEVER = Set.of("sure NONE", "saying NONE");
    private static final String ANOTHER_SEED = "seed(seed(0) ^ 1);";

    private record Broken(int promise, String how, String source) { }

    private final String source;
    private final List<Broken> breaks = new ArrayList<>();

    private BrokenTests(String source) {
        this.source = source;
    }

    public static void main(String[] args) throws Exception {
        BrokenTests t = new BrokenTests(Files.readString(Path.of(args.length > 0 ? args[0] : "src/main/java/SixMaps.java")));
        Check.holds("the class as it is passes these tests", !isNoticed(new Broken(0, "as it is", t.source)));
        t.breakNewObject();
        for (int i = 2; i <= Doc.PROMISES; i++) {
            t.breakPromise(i);
        }
        Collection<Broken> unnoticed = Collections.synchronizedList(new ArrayList<>());
        t.breaks.parallelStream().filter(b -> !isNoticed(b)).forEach(unnoticed::add);
        for (Broken b : t.breaks) {
            Check.holds("it is noticed if promise " + b.promise + " is broken: " + b.how, !unnoticed.contains(b));
        }
        Check.end();
    }

    private void breakNewObject() {
        String header = "public SixMaps() {";
        Check.holds("once: " + header, source.split(Pattern.quote(header), -1).length == 2);
        breaks.add(new Broken(1, "it has a MARK",
                source.replace(header, header + " feed(8, 0x6D61726B20312031L); feed(1, ';'); island();")));
    }

    private void breakPromise(int promise) {
        Matcher call = Pattern.compile("int (\\w+)\\(([^)]*)\\)").matcher(Doc.callOf(promise));
        Check.holds("promise " + promise + " tells what is called", call.matches());
        String name = call.group(1);
        String text = Doc.textOf("Promise " + promise);
        add(promise, name, "another answer", "due == NONE || due <= UNKNOWN ? due : due + 1");
        addAnswer(promise, name, text, "NONE", "NONE - 1");
        addAnswer(promise, name, text, "UNKNOWN", "OUTSIDE");
        addAnswer(promise, name, text, "OUTSIDE", "UNKNOWN");
        addAnswer(promise, name, text, "NOT", "FULL");
        addAnswer(promise, name, text, "FULL", "NOT");
        if (CHANGES.contains(name)) {
            add(promise, name, "nothing is changed", "due", "Undo was = new Undo(this);", "was.bringBack();");
        } else {
            add(promise, name, "what only asks changes something", "due", "", ANOTHER_SEED);
        }
        if (text.matches(".*\\b(UNKNOWN|OUTSIDE|NOT|FULL)\\b.*")) {
            add(promise, name, "what is refused changes something", "due", "", "if (due <= UNKNOWN) { " + ANOTHER_SEED + " }");
        }
    }

    private void addAnswer(int promise, String name, String text, String answer, String other) {
        if (text.matches(".*\\b" + answer + "\\b.*") && !NEVER.contains(name + " " + answer)) {
            add(promise, name, other + " for " + answer, "due == " + answer + " ? " + other + " : due");
        }
    }

    private void add(int promise, String name, String how, String answer) {
        add(promise, name, how, answer, "", "");
    }

    private void add(int promise, String name, String how, String answer, String ahead, String behind) {
        Matcher header = Pattern.compile("public int " + name + "\\(([^)]*)\\) \\{").matcher(source);
        Check.holds("once: public int " + name, header.results().count() == 1);
        header.reset();
        if (header.find()) {
            String names = header.group(1).replaceAll("\\w+ (\\w+)", "$1");
            String broken = header.group() + ahead + " int due = " + name + "AsDue(" + names + "); " + behind + " return " + answer + "; }\n"
                    + "private int " + name + "AsDue(" + header.group(1) + ") {";
            breaks.add(new Broken(promise, name + "(), " + how, header.replaceFirst(Matcher.quoteReplacement(broken))));
        }
    }

    private static boolean isNoticed(Broken b) {
        Built built = Built.of("SixMaps", b.source);
        for (String test : new String[] {"PromiseTests", edgesOf(b.promise), "RefusalEdgeTests"}) {
            if (!passes(built, test)) {
                return true;
            }
        }
        return false;
    }

    private static String edgesOf(int promise) {
        if (promise < 6) {
            return "TextEdgeTests";
        }
        return promise < 17 ? "KnownEdgeTests" : promise < 22 ? "BestEdgeTests" : "HuntEdgeTests";
    }

    private static boolean passes(Built built, String test) {
        try {
            call(built.loadClass("Check").getDeclaredMethod("stopAtFirstWrong"));
            call(built.loadClass(test).getDeclaredMethod("main", String[].class), (Object) new String[0]);
            return true;
        } catch (InvocationTargetException e) {
            return false;
        } catch (ReflectiveOperationException e) {
            throw new IllegalStateException(e);
        }
    }

    private static Object call(Method method, Object... arguments) throws ReflectiveOperationException {
        method.setAccessible(true);
        return method.invoke(null, arguments);
    }
}
