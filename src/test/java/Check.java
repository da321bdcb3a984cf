/** Counts and prints the answers that are not as due. */
final class Check {
    private static int wrong = 0;
    private static int asked = 0;

    private Check() {
    }

    static void due(String call, long got, long want) {
        asked++;
        if (got != want) {
            wrong++;
            System.out.println(call + " answered " + got + ", due is " + want);
        }
    }

    static void holds(String what, boolean so) {
        asked++;
        if (!so) {
            wrong++;
            System.out.println("does not hold: " + what);
        }
    }

    static boolean isClean() {
        return wrong == 0;
    }

    static void end() {
        System.out.println(asked + " answers, " + wrong + " not as due");
        if (wrong != 0) {
            System.exit(1);
        }
    }

    /** Feeds a text eight bytes at a time; what the last feed answered. */
    static int feed(SixMaps maps, String text) {
        int answer = 0;
        for (int i = 0; i < text.length(); i += 8) {
            int n = Math.min(8, text.length() - i);
            long bytes = 0;
            for (int j = 0; j < n; j++) {
                bytes = bytes << 8 | text.charAt(i + j) & 255;
            }
            answer = maps.feed(n, bytes);
        }
        return answer;
    }

    static SixMaps told(String text) {
        SixMaps maps = new SixMaps();
        feed(maps, text);
        int answer = maps.island();
        holds("the text has no fault: " + text, answer >= 0);
        return maps;
    }
}
