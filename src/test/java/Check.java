import java.util.Set;
import java.util.TreeSet;

/** Counts and prints the answers that are not as due. */
final class Check {
    private static int wrong = 0;
    private static int asked = 0;
    private static boolean quiet = false;
    private static String sentence = "";
    private static final Set<String> PARTS = new TreeSet<>();

    private Check() {
    }

    static void due(String call, long got, long want) {
        asked++;
        if (got != want) {
            isWrong(call + " answered " + got + ", due is " + want);
        }
    }

    static void holds(String what, boolean so) {
        asked++;
        if (!so) {
            isWrong("does not hold: " + what);
        }
    }

    /** What comes now is due by these words of the document; words that it does not say are a wrong answer, too. */
    static void by(String part, String words) {
        sentence = "";
        holds(part + " says '" + words + "'", Doc.says(part, words));
        sentence = part + ", '" + words + "': ";
        PARTS.add(part);
    }

    static void spokenOf(String... parts) {
        sentence = "";
        for (String part : parts) {
            holds("there is a test of " + part, PARTS.contains(part));
        }
    }

    static void spokenOfPromises(int from, int to) {
        for (int i = from; i <= to; i++) {
            spokenOf("Promise " + i);
        }
    }

    static boolean isClean() {
        return wrong == 0;
    }

    /** For a test that runs other tests: nothing is printed, and the first wrong answer ends the test, but not the program. */
    static void stopAtFirstWrong() {
        quiet = true;
    }

    static void end() {
        if (quiet) {
            return;
        }
        System.out.println(asked + " answers, " + wrong + " not as due");
        if (wrong != 0) {
            System.exit(1);
        }
    }

    private static void isWrong(String why) {
        wrong++;
        if (quiet) {
            throw new IllegalStateException(sentence + why);
        }
        System.out.println(sentence + why);
    }

    /** Feeds a text eight bytes at a time; what the last feed answered. */
    static int feed(SixMaps maps, String text) {
        int answer = 0;
        for (int i = 0; i < text.length(); i += 8) {
            int n = Math.min(8, text.length() - i);
            long bytes = 0;
            for (int j = 0; j < n; j++) {
                bytes = bytes << 8 | text.charAt(i + j) & 255;
            }
            answer = maps.feed(n, bytes);
        }
        return answer;
    }

    static SixMaps told(String text) {
        SixMaps maps = new SixMaps();
        feed(maps, text);
        int answer = maps.island();
        holds("the text has no fault: " + text, answer >= 0);
        return maps;
    }

    /** A text whose FAULT is at the sign '^', which is not of the text. */
    static SixMaps fault(String marked, int number) {
        int at = marked.indexOf('^');
        String text = marked.replace("^", "");
        SixMaps maps = new SixMaps();
        feed(maps, text);
        due("island() of '" + marked + "'", maps.island(), -10 - number);
        due("fault() of '" + marked + "'", maps.fault(), at);
        return maps;
    }

    static SixMaps fine(String text, int marks) {
        SixMaps maps = new SixMaps();
        feed(maps, text);
        due("island() of '" + text + "'", maps.island(), marks);
        due("fault() of '" + text + "'", maps.fault(), -1);
        return maps;
    }
}
