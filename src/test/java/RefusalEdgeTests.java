import java.util.ArrayList;
import java.util.List;
import java.util.function.Consumer;
import java.util.function.ToIntFunction;

/** Which refusal is the first of several, and that behind each refused call, and each that only asks, all is as it was. */
public final class RefusalEdgeTests extends Edge {
    private static final long SIGNS = 0x3B3B3B3B3B3B3B3BL;
    private static final String ISLAND = "within 1;mark 50 50;mark 20 20;mark 30 30;goal 0 1 2;lie 0 0 60 50;lie 3 1 20 30;"
            + "err 1 0 10 9;err 2 2 8 8;spade 7;prize 90;";
    private static final String PLAIN = "mark 50 50;mark 20 20;mark 30 30;goal 0 1 2;lie 0 0 60 50;spade 7;prize 90;";

    private record Call(String name, int due, ToIntFunction<SixMaps> call) { }

    private final List<Call> calls = new ArrayList<>();

    private RefusalEdgeTests() {
    }

    public static void main(String[] args) {
        constants();
        atFirst();
        inTheMidst();
        inTheMidstOfBest();
        allFull();
        foundAndFull();
        behindAFault();
        asks();
        Check.spokenOf("Terms", "Not promised");
        Check.end();
    }

    private static void constants() {
        by("Terms", "NONE is -1.");
        due("NONE", SixMaps.NONE, NONE);
        by("Terms", "They are far below all that is counted: -1000001 and on.");
        due("UNKNOWN", SixMaps.UNKNOWN, UNKNOWN);
        due("OUTSIDE", SixMaps.OUTSIDE, OUTSIDE);
        due("NOT", SixMaps.NOT, NOT);
        due("FULL", SixMaps.FULL, FULL);
    }

    private void add(String name, int due, ToIntFunction<SixMaps> call) {
        calls.add(new Call(name, due, call));
    }

    /** Each call alone behind the same calls ahead of it. */
    private void changeNothing(String when, Consumer<SixMaps> ahead) {
        List<String> was = Probe.of(ahead);
        for (Call c : calls) {
            List<String> is = Probe.of(ahead.andThen(x -> due(when + ": " + c.name, c.call.applyAsInt(x), c.due)));
            String unlike = Probe.unlike(was, is);
            Check.holds(when + ": " + c.name + " changes nothing, but " + unlike, unlike == null);
        }
    }

    private static void byRefusals() {
        by("Terms", "REFUSALS, of several the first in this order: UNKNOWN (a MARK, BAND, IMAGE that there is not), "
                + "OUTSIDE (another number out of its bounds), NOT (not now, as told), FULL.");
        by("Terms", "What is refused changes nothing.");
    }

    // ---- states

    private static void midst(SixMaps x) {
        Check.feed(x, ISLAND);
        x.island();
        x.show(1, 0, 0);
        x.show(3, 0, 1);
        x.trade(4, 2, 5, 1);
        x.dig(2, 60, 30);
        x.dig(4, 1, 1);
        x.say(0, 3, true);
        x.say(5, 2, true);
        x.keep(0);
        x.show(2, 0, 0);
        x.dig(1, 2, 2);
        x.seed(77);
        Check.feed(x, "mark 7 8");
    }

    private static void full(SixMaps x) {
        Check.feed(x, PLAIN);
        x.island();
        x.show(1, 0, 0);
        for (int i = 0; i < 20; i++) {
            x.dig(i % 6, i, 1);
            x.say(i % 6, i % 5, i % 2 == 0);
        }
        x.keep(0);
        x.show(2, 0, 1);
        x.keep(1);
        x.seed(78);
        Check.feed(x, "mark 7 8;" + " ".repeat(391));
    }

    /** With twenty SPADES only a HUNT can find it. */
    private static void foundFull(SixMaps x) {
        Check.feed(x, PLAIN);
        x.island();
        for (int i = 0; i < 20; i++) {
            x.dig(i % 6, i, 1);
        }
        x.keep(0);
        x.hunt(1);
        x.seed(79);
    }

    private static void fault(SixMaps x) {
        midst(x);
        x.feed(1, '?');
        x.island();
    }

    // ---- refused

    private static void atFirst() {
        byRefusals();
        RefusalEdgeTests t = new RefusalEdgeTests();
        t.noBands();
        t.badNumbers();
        t.add("mark(0, 0)", UNKNOWN, x -> x.mark(0, 0));
        t.add("mark(0, 2)", UNKNOWN, x -> x.mark(0, 2));
        t.add("map(0, 0, 0)", UNKNOWN, x -> x.map(0, 0, 0));
        t.add("map(0, 0, 2)", UNKNOWN, x -> x.map(0, 0, 2));
        t.add("leads(0, 0)", NOT, x -> x.leads(0, 0));
        t.add("leads(0, 4)", OUTSIDE, x -> x.leads(0, 4));
        t.add("show(0, 1, 0)", UNKNOWN, x -> x.show(0, 1, 0));
        t.add("trade(0, 0, 1, 0)", UNKNOWN, x -> x.trade(0, 0, 1, 0));
        t.add("dig(0, 0, 0)", NOT, x -> x.dig(0, 0, 0));
        t.add("dig(0, 100, 0)", OUTSIDE, x -> x.dig(0, 100, 0));
        t.add("dig(0, 0, -1)", OUTSIDE, x -> x.dig(0, 0, -1));
        t.add("area(0, 0, 0)", NOT, x -> x.area(0, 0, 0));
        t.add("area(0, 64, 0)", OUTSIDE, x -> x.area(0, 64, 0));
        t.add("area(0, 0, 4)", OUTSIDE, x -> x.area(0, 0, 4));
        t.add("corner(0, 1, 0)", UNKNOWN, x -> x.corner(0, 1, 0));
        t.add("saying(0, 0)", UNKNOWN, x -> x.saying(0, 0));
        t.add("saying(0, 2)", UNKNOWN, x -> x.saying(0, 2));
        t.add("hunt(1)", NOT, x -> x.hunt(1));
        t.add("hunt(0)", OUTSIDE, x -> x.hunt(0));
        t.add("goBack(0)", NOT, x -> x.goBack(0));
        t.add("goBack(1)", NOT, x -> x.goBack(1));
        t.changeNothing("new", x -> { });
    }

    private static void inTheMidst() {
        byRefusals();
        RefusalEdgeTests t = new RefusalEdgeTests();
        t.noBands();
        t.badNumbers();
        for (int k : new int[] {-1, 3, 9, LEAST, MOST}) {
            t.add("mark(" + k + ", 0)", UNKNOWN, x -> x.mark(k, 0));
            t.add("mark(" + k + ", 2)", UNKNOWN, x -> x.mark(k, 2));
            t.add("map(0, " + k + ", 0)", UNKNOWN, x -> x.map(0, k, 0));
            t.add("map(0, " + k + ", 2)", UNKNOWN, x -> x.map(0, k, 2));
            t.add("show(0, 1, " + k + ")", UNKNOWN, x -> x.show(0, 1, k));
            t.add("trade(0, " + k + ", 1, 1)", UNKNOWN, x -> x.trade(0, k, 1, 1));
            // The other MARK is KNOWN already.
            t.add("trade(0, " + k + ", 1, 0)", UNKNOWN, x -> x.trade(0, k, 1, 0));
            t.add("trade(1, 0, 0, " + k + ")", UNKNOWN, x -> x.trade(1, 0, 0, k));
            t.add("corner(0, 1, " + k + ")", UNKNOWN, x -> x.corner(0, 1, k));
        }
        for (int what : new int[] {-1, 2, LEAST, MOST}) {
            t.add("mark(0, " + what + ")", OUTSIDE, x -> x.mark(0, what));
            t.add("map(0, 0, " + what + ")", OUTSIDE, x -> x.map(0, 0, what));
            t.add("saying(1, " + what + ")", OUTSIDE, x -> x.saying(1, what));
            t.add("saying(2, " + what + ")", UNKNOWN, x -> x.saying(2, what));
        }
        t.add("show(1, 0, 0)", NOT, x -> x.show(1, 0, 0));
        t.add("trade(1, 0, 0, 0)", NOT, x -> x.trade(1, 0, 0, 0));
        t.add("trade(0, 0, 1, 0)", NOT, x -> x.trade(0, 0, 1, 0));
        t.add("trade(4, 2, 5, 0)", NOT, x -> x.trade(4, 2, 5, 0));
        t.add("trade(4, 0, 5, 1)", NOT, x -> x.trade(4, 0, 5, 1));
        t.add("trade(4, 2, 5, 1)", NOT, x -> x.trade(4, 2, 5, 1));
        t.add("corner(0, 1, 0)", NOT, x -> x.corner(0, 1, 0));
        t.add("area(0, 0, 0)", NOT, x -> x.area(0, 0, 0));
        t.add("area(0, 63, 0)", NOT, x -> x.area(0, 63, 0));
        t.add("area(0, 63, 4)", OUTSIDE, x -> x.area(0, 63, 4));
        t.add("goBack(1)", NOT, x -> x.goBack(1));
        t.changeNothing("in the midst", RefusalEdgeTests::midst);
    }

    private static void inTheMidstOfBest() {
        byRefusals();
        RefusalEdgeTests t = new RefusalEdgeTests();
        for (int b = 0; b < 6; b++) {
            int a = b;
            t.add("show(" + a + ", " + a + ", 0)", UNKNOWN, x -> x.show(a, a, 0));
            t.add("trade(" + a + ", 0, " + a + ", 1)", UNKNOWN, x -> x.trade(a, 0, a, 1));
            t.add("corner(" + a + ", " + a + ", 0)", UNKNOWN, x -> x.corner(a, a, 0));
        }
        for (int out : new int[] {-1, 100, LEAST, MOST}) {
            t.add("dig(0, " + out + ", 5)", OUTSIDE, x -> x.dig(0, out, 5));
            t.add("dig(0, 5, " + out + ")", OUTSIDE, x -> x.dig(0, 5, out));
        }
        t.changeNothing("in the midst", RefusalEdgeTests::midst);
    }

    private static void allFull() {
        byRefusals();
        RefusalEdgeTests t = new RefusalEdgeTests();
        t.noBands();
        t.badNumbers();
        for (int n = 1; n <= 8; n++) {
            int m = n;
            t.add("feed(" + m + ", ..)", FULL, x -> x.feed(m, SIGNS));
        }
        t.add("dig(0, 1, 1)", FULL, x -> x.dig(0, 1, 1));
        t.add("dig(0, 40, 40), where it lies", FULL, x -> x.dig(0, 40, 40));
        t.add("dig(0, 100, 1)", OUTSIDE, x -> x.dig(0, 100, 1));
        t.add("dig(0, 1, -1)", OUTSIDE, x -> x.dig(0, 1, -1));
        t.add("say(0, 0, true)", FULL, x -> x.say(0, 0, true));
        t.add("say(5, 5, false)", FULL, x -> x.say(5, 5, false));
        t.add("saying(20, 0)", UNKNOWN, x -> x.saying(20, 0));
        t.changeNothing("all full", RefusalEdgeTests::full);
    }

    private static void foundAndFull() {
        byRefusals();
        SixMaps x = new SixMaps();
        foundFull(x);
        due("it was found by", x.told(11), 1);
        due("SPADES", x.told(9), 20);
        RefusalEdgeTests t = new RefusalEdgeTests();
        t.add("dig(0, 1, 1), NOT ahead of FULL", NOT, y -> y.dig(0, 1, 1));
        t.add("dig(0, 40, 40)", NOT, y -> y.dig(0, 40, 40));
        t.add("dig(0, 100, 1)", OUTSIDE, y -> y.dig(0, 100, 1));
        t.add("dig(6, 100, 1)", UNKNOWN, y -> y.dig(6, 100, 1));
        t.add("dig(-1, 1, 1)", UNKNOWN, y -> y.dig(-1, 1, 1));
        t.add("hunt(1)", NOT, y -> y.hunt(1));
        t.add("hunt(20)", NOT, y -> y.hunt(20));
        t.add("hunt(0)", OUTSIDE, y -> y.hunt(0));
        t.add("hunt(21)", OUTSIDE, y -> y.hunt(21));
        t.changeNothing("found", RefusalEdgeTests::foundFull);
    }

    private static void behindAFault() {
        byRefusals();
        RefusalEdgeTests t = new RefusalEdgeTests();
        t.badNumbers();
        t.add("show(1, 0, 0)", NOT, x -> x.show(1, 0, 0));
        t.add("goBack(1)", NOT, x -> x.goBack(1));
        t.changeNothing("behind a fault", RefusalEdgeTests::fault);
    }

    /** Refused whatever else is so; numbers that are out of bounds, too, stand behind a BAND that there is not. */
    private void noBands() {
        for (int b : NO_BANDS) {
            add("map(" + b + ", 0, 2)", UNKNOWN, x -> x.map(b, 0, 2));
            add("leads(" + b + ", 0)", UNKNOWN, x -> x.leads(b, 0));
            add("leads(" + b + ", 4)", UNKNOWN, x -> x.leads(b, 4));
            add("knows(" + b + ", 0)", UNKNOWN, x -> x.knows(b, 0));
            add("knows(0, " + b + ")", UNKNOWN, x -> x.knows(0, b));
            add("show(" + b + ", 0, 0)", UNKNOWN, x -> x.show(b, 0, 0));
            add("show(0, " + b + ", 0)", UNKNOWN, x -> x.show(0, b, 0));
            add("trade(" + b + ", 0, 0, 0)", UNKNOWN, x -> x.trade(b, 0, 0, 0));
            add("trade(0, 0, " + b + ", 0)", UNKNOWN, x -> x.trade(0, 0, b, 0));
            add("dig(" + b + ", 1, 1)", UNKNOWN, x -> x.dig(b, 1, 1));
            add("dig(" + b + ", 100, 1)", UNKNOWN, x -> x.dig(b, 100, 1));
            add("purse(" + b + ")", UNKNOWN, x -> x.purse(b));
            add("may(" + b + ", -1)", UNKNOWN, x -> x.may(b, -1));
            add("may(" + b + ", 99)", UNKNOWN, x -> x.may(b, 99));
            add("sure(" + b + ", 2)", UNKNOWN, x -> x.sure(b, 2));
            add("area(" + b + ", 3, 0)", UNKNOWN, x -> x.area(b, 3, 0));
            add("area(" + b + ", 64, 4)", UNKNOWN, x -> x.area(b, 64, 4));
            add("best(" + b + ", 4)", UNKNOWN, x -> x.best(b, 4));
            add("corner(" + b + ", 0, 0)", UNKNOWN, x -> x.corner(b, 0, 0));
            add("corner(0, " + b + ", 0)", UNKNOWN, x -> x.corner(0, b, 0));
            add("bestCorner(" + b + ", 3)", UNKNOWN, x -> x.bestCorner(b, 3));
            add("spades(" + b + ")", UNKNOWN, x -> x.spades(b));
            add("found(" + b + ")", UNKNOWN, x -> x.found(b));
            add("say(" + b + ", 0, true)", UNKNOWN, x -> x.say(b, 0, true));
            add("say(0, " + b + ", true)", UNKNOWN, x -> x.say(0, b, true));
            add("saying(" + (b == 6 ? 21 : b) + ", 2)", UNKNOWN, x -> x.saying(b == 6 ? 21 : b, 2));
            add("keep(" + b + ")", UNKNOWN, x -> x.keep(b));
            add("goBack(" + b + ")", UNKNOWN, x -> x.goBack(b));
        }
        add("keep(2)", UNKNOWN, x -> x.keep(2));
        add("goBack(2)", UNKNOWN, x -> x.goBack(2));
    }

    private void badNumbers() {
        for (int n : new int[] {0, 9, -1, LEAST, MOST}) {
            add("feed(" + n + ", ..)", OUTSIDE, x -> x.feed(n, SIGNS));
        }
        for (int n : new int[] {0, 21, -1, LEAST, MOST}) {
            add("hunt(" + n + ")", OUTSIDE, x -> x.hunt(n));
        }
        for (int what : new int[] {-1, 12, LEAST, MOST}) {
            add("told(" + what + ")", OUTSIDE, x -> x.told(what));
            add("leads(0, " + what + ")", OUTSIDE, x -> x.leads(0, what));
            add("sure(0, " + what + ")", OUTSIDE, x -> x.sure(0, what));
            add("area(0, 3, " + what + ")", OUTSIDE, x -> x.area(0, 3, what));
            add("best(0, " + what + ")", OUTSIDE, x -> x.best(0, what));
            add("bestCorner(0, " + what + ")", OUTSIDE, x -> x.bestCorner(0, what));
        }
        for (int set : new int[] {-1, 64, LEAST, MOST}) {
            add("area(0, " + set + ", 0)", OUTSIDE, x -> x.area(0, set, 0));
        }
        add("leads(0, 4)", OUTSIDE, x -> x.leads(0, 4));
        add("sure(0, 2)", OUTSIDE, x -> x.sure(0, 2));
        add("best(0, 4)", OUTSIDE, x -> x.best(0, 4));
        add("bestCorner(0, 3)", OUTSIDE, x -> x.bestCorner(0, 3));
        add("seed(-1)", OUTSIDE, x -> x.seed(-1));
        add("seed(least)", OUTSIDE, x -> x.seed(LEAST));
    }

    // ---- asked

    private static void asks() {
        by("Not promised", "Nothing is promised beyond the answers and state changes described above");
        RefusalEdgeTests t = new RefusalEdgeTests();
        for (int b = 0; b < 6; b++) {
            int a = b;
            t.ask("may(" + a + ", -1)", y -> y.may(a, -1));
            t.ask("may(" + a + ", 0)", y -> y.may(a, 0));
            t.ask("sure(" + a + ", 0)", y -> y.sure(a, 0));
            t.ask("area(" + a + ", 9, 0)", y -> y.area(a, 9, 0));
            t.ask("best(" + a + ", 3)", y -> y.best(a, 3));
            t.ask("corner(" + a + ", " + (a + 1) % 6 + ", 2)", y -> y.corner(a, (a + 1) % 6, 2));
            t.ask("bestCorner(" + a + ", 2)", y -> y.bestCorner(a, 2));
            t.ask("spades(" + a + ")", y -> y.spades(a));
            t.ask("found(" + a + ")", y -> y.found(a));
            t.ask("leads(" + a + ", 1)", y -> y.leads(a, 1));
            t.ask("map(" + a + ", 1, 1)", y -> y.map(a, 1, 1));
            t.ask("knows(" + a + ", 1)", y -> y.knows(a, 1));
            t.ask("purse(" + a + ")", y -> y.purse(a));
            t.ask("told(" + a + ")", y -> y.told(a));
        }
        t.ask("fault()", y -> y.fault());
        t.ask("mark(1, 1)", y -> y.mark(1, 1));
        t.ask("saying(0, 0)", y -> y.saying(0, 0));
        t.ask("saying(0, 1)", y -> y.saying(0, 1));
        t.ask("loudest()", y -> y.loudest());
        t.changeNothing("asked", RefusalEdgeTests::midst);
    }

    /** What it answers is due elsewhere: here it is the answer that another object gives. */
    private void ask(String name, ToIntFunction<SixMaps> call) {
        SixMaps x = new SixMaps();
        midst(x);
        add(name, call.applyAsInt(x), call);
    }
}
