import java.util.ArrayList;
import java.util.List;
import java.util.Random;

/** Long runs of drawn calls, SixMaps held against Model. The draws start from fixed numbers, so every run is the same. */
public final class ModelTests {
    private static final int RUNS = 700, CALLS = 120, TEXTS = 60000, CORNERS = 2000;

    private final Random random;
    private final SixMaps maps = new SixMaps();
    private final Model model = new Model();
    private final StringBuilder log = new StringBuilder();

    private ModelTests(long seed) {
        random = new Random(seed);
    }

    public static void main(String[] args) {
        for (int i = 0; i < TEXTS && Check.isClean(); i += 400) {
            new ModelTests(i).readTexts(400);
        }
        for (int i = 0; i < RUNS && Check.isClean(); i++) {
            new ModelTests(1000000 + i).run();
        }
        for (int i = 0; i < CORNERS && Check.isClean(); i++) {
            new ModelTests(2000000 + i).runOfCorners();
        }
        Check.end();
    }

    private int upTo(int n) {
        return random.nextInt(n);
    }

    private void same(String call, int got, int want) {
        log.append(call).append(" = ").append(want).append('\n');
        if (got != want) {
            System.out.print(log);
        }
        Check.due(call, got, want);
    }

    // ---- texts

    private void readTexts(int n) {
        for (int i = 0; i < n && Check.isClean(); i++) {
            log.setLength(0);
            String text = drawText(upTo(6) == 0);
            for (int j = upTo(4); j > 0; j--) {
                text = spoil(text);
            }
            tell(text);
            for (int what = -1; what <= 12; what++) {
                same("told(" + what + ")", maps.told(what), model.told(what));
            }
            int m = upTo(6);
            for (int k = 0; k < 10; k++) {
                int what = upTo(2);
                same("map(" + m + ", " + k + ", " + what + ")", maps.map(m, k, what), model.map(m, k, what));
            }
        }
    }

    private void tell(String text) {
        String cut = text.length() > 400 ? text.substring(0, 400) : text;
        log.append("text ").append(cut).append('\n');
        for (int i = 0; i < cut.length(); ) {
            int n = Math.min(1 + upTo(8), cut.length() - i);
            long bytes = random.nextLong();
            for (int j = 0; j < n; j++) {
                bytes = bytes << 8 | cut.charAt(i + j);
            }
            same("feed", maps.feed(n, bytes), model.feed(n, bytes));
            i += n;
        }
        same("island()", maps.island(), model.island());
        same("fault()", maps.fault(), model.fault());
    }

    private String drawText(boolean crowded) {
        int e = upTo(3) == 0 ? 0 : upTo(10);
        List<String> early = new ArrayList<>();
        int marks = crowded ? 6 + upTo(5) : upTo(12) == 0 ? 0 : 1 + upTo(5);
        int spread = upTo(3) == 0 ? 8 : 100;
        int[] x = new int[marks];
        int[] y = new int[marks];
        for (int k = 0; k < marks; k++) {
            x[k] = upTo(spread);
            y[k] = upTo(spread);
            early.add("mark " + x[k] + " " + y[k] + ";");
        }
        if (e > 0 || upTo(4) == 0) {
            early.add(upTo(early.size() + 1), "within " + e + ";");
        }
        List<String> late = new ArrayList<>();
        if (upTo(4) > 0) {
            late.add("goal " + upTo(marks + 1) % Math.max(1, marks) + " " + upTo(Math.max(1, marks)) + " " + upTo(Math.max(1, marks)) + ";");
        }
        int lies = upTo(8) == 0 ? 3 : upTo(4) == 0 ? upTo(2) : 2;
        for (int i = 0; i < lies && marks > 0; i++) {
            late.add(drawLie(x, y, e, spread));
        }
        int errs = crowded ? 26 + upTo(6) : e == 0 ? upTo(2) : upTo(9);
        for (int i = 0; i < errs && marks > 0; i++) {
            String number = (crowded ? i % 6 : upTo(6)) + " " + (crowded ? i / 6 : upTo(marks));
            late.add("err " + number + " " + (9 - e + upTo(2 * e + 1)) + " " + (9 - e + upTo(2 * e + 1)) + ";");
        }
        if (upTo(2) == 0) {
            late.add(upTo(late.size() + 1), "spade " + (upTo(3) == 0 ? upTo(1001) : upTo(30)) + ";");
        }
        if (upTo(2) == 0) {
            late.add(upTo(late.size() + 1), "prize " + (upTo(3) == 0 ? upTo(10001) : upTo(300)) + ";");
        }
        String text = String.join("", early) + String.join("", late);
        return crowded ? text.replaceAll("([a-z]) ", "$1") : text;
    }

    private String drawLie(int[] x, int[] y, int e, int spread) {
        int k = upTo(x.length);
        int far = 2 * e + (upTo(10) == 0 ? 0 : 1 + upTo(3));
        boolean inX = upTo(2) == 0;
        int toX = inX ? (x[k] + far > 99 ? x[k] - far : x[k] + far) : upTo(2) == 0 ? x[k] : upTo(spread);
        int toY = inX ? (upTo(2) == 0 ? y[k] : upTo(spread)) : (y[k] - far < 0 ? y[k] + far : y[k] - far);
        return "lie " + upTo(6) + " " + k + " " + toX + " " + toY + ";";
    }

    private String spoil(String text) {
        int at = upTo(text.length() + 1);
        String signs = " ;;0123456789maegw\tA,";
        char sign = upTo(20) == 0 ? (char) upTo(256) : signs.charAt(upTo(signs.length()));
        String[] pieces = {"mark 1 1;", "within 3;", "goal 0 0 0;", "lie 1 0 5 5;", "err 2 0 9 9;", "spade 1;", "prize 2;", "00", " 12345 ", "  "};
        switch (upTo(6)) {
            case 0:
                return text.substring(0, at);
            case 1:
                return text.substring(0, at) + sign + text.substring(at);
            case 2:
                return at < text.length() ? text.substring(0, at) + text.substring(at + 1) : text;
            case 3:
                return at < text.length() ? text.substring(0, at) + sign + text.substring(at + 1) : text;
            case 4:
                return text.substring(0, at) + pieces[upTo(pieces.length)] + text.substring(at);
            default:
                int end = text.indexOf(';', at) + 1;
                return text.substring(0, end) + pieces[upTo(pieces.length)] + text.substring(end);
        }
    }

    // ---- calls

    private void run() {
        if (upTo(20) > 0) {
            for (int i = 0; i < 20 && model.told(0) < 1; i++) {
                tell(drawText(upTo(10) == 0));
            }
        }
        for (int i = 0; i < CALLS && Check.isClean(); i++) {
            call(upTo(32));
        }
    }

    private int band() {
        return upTo(40) == 0 ? upTo(2) * 7 - 1 : upTo(6);
    }

    private int mark() {
        return upTo(40) == 0 ? upTo(11) - 1 : upTo(Math.max(1, model.told(0)));
    }

    private int what(int n) {
        return upTo(40) == 0 ? (upTo(2) == 0 ? -1 : n) : upTo(n);
    }

    private int place() {
        return upTo(40) == 0 ? (upTo(2) == 0 ? -1 : 100) : upTo(100);
    }

    private void call(int which) {
        int a = band();
        int b = band();
        int k = mark();
        int j = mark();
        String two = "(" + a + ", " + b + ", " + k + ")";
        switch (which) {
            case 0: case 1: case 2: case 3: case 4: case 5:
                same("show" + two, maps.show(a, b, k), model.show(a, b, k));
                break;
            case 6: case 7: case 8: case 9:
                same("trade(" + a + ", " + k + ", " + b + ", " + j + ")", maps.trade(a, k, b, j), model.trade(a, k, b, j));
                break;
            case 10: case 11:
                digSomewhere(a, b);
                break;
            case 12:
                same("corner" + two, maps.corner(a, b, k), model.corner(a, b, k));
                break;
            case 13:
                int c = what(3);
                same("bestCorner(" + a + ", " + c + ")", maps.bestCorner(a, c), model.bestCorner(a, c));
                break;
            case 14: case 15:
                boolean lies = upTo(2) == 0;
                same("say(" + a + ", " + b + ", " + lies + ")", maps.say(a, b, lies), model.say(a, b, lies));
                break;
            case 16: case 17:
                hearSayings();
                break;
            case 18:
                huntSome();
                break;
            case 19:
                int v = random.nextInt() >>> (upTo(20) == 0 ? 0 : 1);
                same("seed(" + v + ")", maps.seed(v), model.seed(v));
                break;
            case 20:
                useImages();
                break;
            case 21:
                same("found(" + a + ")", maps.found(a), model.found(a));
                break;
            default:
                look(a, b, k);
                break;
        }
    }

    private void digSomewhere(int a, int b) {
        int x = place();
        int y = place();
        int set = model.may(b, upTo(4));
        if (upTo(3) > 0 && model.best(b, 0) >= NOWHERE_LEAST) {
            x = model.best(b, 0);
            y = model.best(b, 1);
        } else if (upTo(3) > 0 && set >= 0) {
            // An end of an area that is no place: a spade there fells nothing.
            x = model.area(b, set, upTo(2));
            y = model.area(b, set, 2 + upTo(2));
        }
        same("dig(" + a + ", " + x + ", " + y + ")", maps.dig(a, x, y), model.dig(a, x, y));
    }

    /** Below this an answer of best is a refusal. */
    private static final int NOWHERE_LEAST = -1000;

    private void hearSayings() {
        int i = upTo(10) == 0 ? upTo(25) - 2 : upTo(Math.max(1, model.told(10)));
        int what = what(2);
        same("saying(" + i + ", " + what + ")", maps.saying(i, what), model.saying(i, what));
        same("loudest()", maps.loudest(), model.loudest());
        if (upTo(20) == 0) {
            same("forget()", maps.forget(), model.forget());
        }
    }

    private void huntSome() {
        int n = upTo(20) == 0 ? upTo(2) * 21 : upTo(3) == 0 ? 1 + upTo(20) : 1;
        if (upTo(2) == 0) {
            same("keep(0)", maps.keep(0), model.keep(0));
        }
        same("hunt(" + n + ")", maps.hunt(n), model.hunt(n));
        for (int b = 0; b < 6; b++) {
            same("purse(" + b + ")", maps.purse(b), model.purse(b));
        }
        if (upTo(4) > 0) {
            same("goBack(0)", maps.goBack(0), model.goBack(0));
        }
    }

    private void useImages() {
        int i = upTo(10) == 0 ? upTo(2) * 3 - 1 : upTo(2);
        if (upTo(2) == 0) {
            same("keep(" + i + ")", maps.keep(i), model.keep(i));
        } else {
            same("goBack(" + i + ")", maps.goBack(i), model.goBack(i));
        }
        if (upTo(30) == 0) {
            tell(drawText(false));
        }
    }

    /** Few MARKS, two liars, little shown, and SPADES where MAPS lead: there a corner that is far off is often the worst. */
    private void runOfCorners() {
        int e = upTo(3) == 0 ? 1 + upTo(2) : 0;
        int marks = 1 + upTo(3);
        StringBuilder text = new StringBuilder("within " + e + ";");
        for (int k = 0; k < marks; k++) {
            text.append("mark ").append(50 + 10 * k).append(" 50;");
        }
        int liar = upTo(6);
        int other = (liar + 1 + upTo(5)) % 6;
        for (int m : new int[] {liar, other}) {
            int k = upTo(marks);
            text.append("lie ").append(m).append(' ').append(k).append(' ').append(51 + 10 * k + 2 * e).append(" 50;");
        }
        tell(text.toString());
        int b = upTo(2) == 0 ? liar : upTo(6);
        for (int i = 1 + upTo(3); i > 0; i--) {
            int a = upTo(2) == 0 ? other : upTo(6);
            int k = upTo(marks);
            same("show(" + a + ", " + b + ", " + k + ")", maps.show(a, b, k), model.show(a, b, k));
        }
        for (int i = upTo(3); i > 0; i--) {
            int m = i == 1 ? b : upTo(6);
            int x = (model.leads(m, 0) + model.leads(m, 1)) / 2;
            same("dig(0, " + x + ", 50)", maps.dig(0, x, 50), model.dig(0, x, 50));
        }
        for (int i = 0; i < 6 * marks; i++) {
            String corner = "corner(" + b + ", " + i / marks + ", " + i % marks + ")";
            same(corner, maps.corner(b, i / marks, i % marks), model.corner(b, i / marks, i % marks));
        }
    }

    private void look(int a, int b, int k) {
        same("may(" + a + ", -1)", maps.may(a, -1), model.may(a, -1));
        int i = upTo(17) - 2;
        same("may(" + a + ", " + i + ")", maps.may(a, i), model.may(a, i));
        int w = what(2);
        same("sure(" + a + ", " + w + ")", maps.sure(a, w), model.sure(a, w));
        w = what(4);
        int set = upTo(3) == 0 ? upTo(66) - 1 : model.may(a, upTo(Math.max(1, model.may(a, -1))));
        same("area(" + a + ", " + set + ", " + w + ")", maps.area(a, set, w), model.area(a, set, w));
        same("best(" + a + ", " + w + ")", maps.best(a, w), model.best(a, w));
        same("spades(" + a + ")", maps.spades(a), model.spades(a));
        same("knows(" + a + ", " + b + ")", maps.knows(a, b), model.knows(a, b));
        same("leads(" + a + ", " + w + ")", maps.leads(a, w), model.leads(a, w));
        w = what(2);
        same("mark(" + k + ", " + w + ")", maps.mark(k, w), model.mark(k, w));
        same("map(" + a + ", " + k + ", " + w + ")", maps.map(a, k, w), model.map(a, k, w));
        w = what(12);
        same("told(" + w + ")", maps.told(w), model.told(w));
    }
}
