import java.util.ArrayList;
import java.util.List;
import java.util.function.Consumer;

/**
 * All that can be seen of an object, answer by answer, to tell whether a call has changed something.
 * Every look is at an object made anew by the same calls: an object lives for 512 calls, and some looks change it.
 */
final class Probe {
    private static final int BANDS = 6;

    private final Consumer<SixMaps> calls;
    private final List<String> seen = new ArrayList<>();

    private Probe(Consumer<SixMaps> calls) {
        this.calls = calls;
    }

    static List<String> of(Consumer<SixMaps> calls) {
        Probe probe = new Probe(calls);
        probe.lookAtIsland("", probe.made());
        probe.lookAtSayings(probe.made());
        for (int b = 0; b < BANDS; b++) {
            probe.lookAtSets(b, probe.made());
            probe.lookAtCorners(b, probe.made());
        }
        probe.lookAtStanding("", probe.made());
        probe.lookAtImage(0);
        probe.lookAtImage(1);
        probe.lookAtHunt();
        probe.lookAtText();
        return probe.seen;
    }

    /** The first look that differs, or null. */
    static String unlike(List<String> a, List<String> b) {
        for (int i = 0; i < Math.min(a.size(), b.size()); i++) {
            if (!a.get(i).equals(b.get(i))) {
                return a.get(i) + " became " + b.get(i);
            }
        }
        return a.size() == b.size() ? null : "the number of looks";
    }

    private SixMaps made() {
        SixMaps x = new SixMaps();
        calls.accept(x);
        return x;
    }

    private void see(String call, int answer) {
        seen.add(call + " = " + answer);
    }

    private void lookAtIsland(String when, SixMaps x) {
        for (int what = 0; what < 12; what++) {
            see(when + "told(" + what + ")", x.told(what));
        }
        see(when + "fault()", x.fault());
        int marks = x.told(0);
        for (int i = 0; i < 2 * marks; i++) {
            see(when + "mark(" + i / 2 + ", " + i % 2 + ")", x.mark(i / 2, i % 2));
            for (int m = 0; m < BANDS; m++) {
                see(when + "map(" + m + ", " + i / 2 + ", " + i % 2 + ")", x.map(m, i / 2, i % 2));
            }
        }
        for (int i = 0; i < 4 * BANDS; i++) {
            see(when + "leads(" + i / 4 + ", " + i % 4 + ")", x.leads(i / 4, i % 4));
        }
    }

    private void lookAtSayings(SixMaps x) {
        see("loudest()", x.loudest());
        for (int i = 0; i < 20; i++) {
            see("saying(" + i + ", 0)", x.saying(i, 0));
            see("saying(" + i + ", 1)", x.saying(i, 1));
        }
        see("forget()", x.forget());
    }

    private void lookAtSets(int b, SixMaps x) {
        int sets = x.may(b, -1);
        see("may(" + b + ", -1)", sets);
        for (int i = 0; i < sets; i++) {
            int set = x.may(b, i);
            see("may(" + b + ", " + i + ")", set);
            for (int what = 0; what < 4; what++) {
                see("area(" + b + ", " + set + ", " + what + ")", x.area(b, set, what));
            }
        }
        for (int what = 0; what < 4; what++) {
            see("best(" + b + ", " + what + ")", x.best(b, what));
        }
        see("sure(" + b + ", 0)", x.sure(b, 0));
        see("sure(" + b + ", 1)", x.sure(b, 1));
        see("spades(" + b + ")", x.spades(b));
        see("found(" + b + ")", x.found(b));
    }

    private void lookAtCorners(int b, SixMaps x) {
        int marks = x.told(0);
        for (int c = 0; c < BANDS; c++) {
            for (int k = 0; k < marks; k++) {
                see("corner(" + b + ", " + c + ", " + k + ")", x.corner(b, c, k));
            }
        }
        for (int what = 0; what < 3; what++) {
            see("bestCorner(" + b + ", " + what + ")", x.bestCorner(b, what));
        }
    }

    /** What an image keeps. */
    private void lookAtStanding(String when, SixMaps x) {
        for (int b = 0; b < BANDS; b++) {
            see(when + "purse(" + b + ")", x.purse(b));
            see(when + "may(" + b + ", -1)", x.may(b, -1));
            for (int m = 0; m < BANDS; m++) {
                see(when + "knows(" + b + ", " + m + ")", x.knows(b, m));
            }
        }
        see(when + "told(9)", x.told(9));
        see(when + "told(11)", x.told(11));
        see(when + "seed(0)", x.seed(0));
    }

    private void lookAtImage(int i) {
        SixMaps x = made();
        see("goBack(" + i + ")", x.goBack(i));
        lookAtStanding("behind goBack(" + i + "), ", x);
    }

    private void lookAtHunt() {
        SixMaps x = made();
        see("hunt(2)", x.hunt(2));
        lookAtStanding("behind hunt(2), ", x);
    }

    /** The bytes of the text are seen by what becomes of them, with a ';' behind them if there is room. */
    private void lookAtText() {
        SixMaps x = made();
        see("feed(1, ';')", x.feed(1, ';'));
        see("island()", x.island());
        lookAtIsland("behind island(), ", x);
    }
}
