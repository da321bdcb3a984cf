import java.math.BigInteger;

/** The edges of sayings, hunts, draws and images: the last part of 'Terms' 3 and promises 22 to 29. */
public final class HuntEdgeTests extends Edge {
    private static final BigInteger TIMES = BigInteger.valueOf(1103515245), MORE = BigInteger.valueOf(12345), TWO31 = BigInteger.ONE.shiftLeft(31);

    private HuntEdgeTests() {
    }

    public static void main(String[] args) {
        sayings();
        sayingsFull();
        forget();
        sayingsTrue();
        nobodyLiesAtFirst();
        likely();
        sayingBounds();
        loudest();
        huntDays();
        huntNot();
        worthAbove0();
        digsAndPays();
        roomForSpades();
        tradesOfADay();
        knownStaysSo();
        endedWhenFound();
        dayByDay();
        theSeedAtFirst();
        drawsThatWrap();
        for512Calls();
        seedBounds();
        images();
        imagesKeep();
        spadesOfImages();
        imagesKeepNoMore();
        imagesAreCopies();
        goBackNot();
        Check.spokenOf("Terms 3");
        Check.spokenOfPromises(22, 29);
        Check.end();
    }

    private static int seedOf(SixMaps x) {
        int seed = x.seed(0);
        x.seed(seed);
        return seed;
    }

    /** THE SEED one DRAW on, with no number that could be too long. */
    private static int next(int seed) {
        return BigInteger.valueOf(seed).multiply(TIMES).add(MORE).mod(TWO31).intValueExact();
    }

    private static int next(int seed, int draws) {
        int s = seed;
        for (int i = 0; i < draws; i++) {
            s = next(s);
        }
        return s;
    }

    /** THE SEED from which one DRAW leads to this one. */
    private static int ahead(int seed) {
        return BigInteger.valueOf(seed).subtract(MORE).multiply(TIMES.modInverse(TWO31)).mod(TWO31).intValueExact();
    }

    // ---- sayings

    private static void sayings() {
        by("Promise 22", "A SAYING: its number.");
        SixMaps x = told("mark 1 1;lie 5 0 9 9;");
        due("say(0, 5, true)", x.say(0, 5, true), 0);
        due("say(5, 0, false)", x.say(5, 0, false), 1);
        due("say(3, 3, true), of its own MAP", x.say(3, 3, true), 2);
        due("say(0, 5, true), once more", x.say(0, 5, true), 3);
        for (int b : NO_BANDS) {
            due("say(" + b + ", 0, true)", x.say(b, 0, true), UNKNOWN);
            due("say(0, " + b + ", false)", x.say(0, b, false), UNKNOWN);
        }
        due("told(10)", x.told(10), 4);
        due("no MARKS: say(5, 5, false)", new SixMaps().say(5, 5, false), 0);
    }

    private static void sayingsFull() {
        by("Promise 22", "UNKNOWN, FULL (20).");
        SixMaps x = told("mark 1 1;lie 5 0 9 9;");
        for (int i = 0; i < 20; i++) {
            due("say " + i, x.say(i % 6, 5, true), i);
        }
        due("say 20", x.say(0, 5, false), FULL);
        due("say 20, no BAND", x.say(6, 5, false), UNKNOWN);
        due("say 20, no MAP", x.say(0, -1, false), UNKNOWN);
        due("told(10)", x.told(10), 20);
        for (int i = 0; i < 20; i++) {
            due("saying(" + i + ", 0)", x.saying(i, 0), 1);
        }
        due("saying(20, 0)", x.saying(20, 0), UNKNOWN);
        due("loudest()", x.loudest(), NONE);
    }

    private static void forget() {
        by("Promise 23", "No SAYINGS: how many there were.");
        SixMaps x = told("mark 1 1;lie 5 0 9 9;");
        due("forget(), none", x.forget(), 0);
        for (int i = 0; i < 20; i++) {
            x.say(0, 0, true);
        }
        due("loudest()", x.loudest(), 0);
        due("forget(), all", x.forget(), 20);
        due("forget() again", x.forget(), 0);
        due("told(10)", x.told(10), 0);
        due("saying(0, 0)", x.saying(0, 0), UNKNOWN);
        due("loudest(), forgotten", x.loudest(), NONE);
        due("say, from the first number on", x.say(1, 5, true), 0);
        due("saying(0, 0), the new one", x.saying(0, 0), 1);
    }

    private static void sayingsTrue() {
        by("Terms 3", "SAYINGS: a BAND says that a MAP lies, or not (20 at most): TRUE, if its MAP is one that lies (does not)");
        String[] texts = {"mark 1 1;", "mark 1 1;lie 0 0 9 9;", "mark 1 1;lie 0 0 9 9;lie 5 0 9 9;"};
        int[] liars = {0, 1, 33};
        for (int t = 0; t < 3; t++) {
            SixMaps x = told(texts[t]);
            for (int m = 0; m < 6; m++) {
                int lies = liars[t] >> m & 1;
                due("it lies", x.saying(x.say(3, m, true), 0), lies);
                due("it does not", x.saying(x.say(3, m, false), 0), 1 - lies);
            }
        }
    }

    private static void nobodyLiesAtFirst() {
        by("Terms 3", "TRUE, if its MAP is one that lies (does not)");
        SixMaps x = new SixMaps();
        for (int m = 0; m < 6; m++) {
            due("no MARKS: it lies", x.saying(x.say(0, m, true), 0), 0);
            due("no MARKS: it does not", x.saying(x.say(0, m, false), 0), 1);
        }
    }

    private static void likely() {
        by("Terms 3", "LIKELY: of SETS that MAY LIE for that BAND how many say so, of all (of a hundred, cut; NONE without SETS).");
        SixMaps two = told("mark 1 1;lie 0 0 9 9;lie 5 0 8 8;");
        due("five of fifteen", two.saying(two.say(3, 1, true), 1), 33);
        due("ten of fifteen", two.saying(two.say(3, 1, false), 1), 66);
        SixMaps one = told("mark 1 1;lie 0 0 9 9;");
        one.say(3, 1, true);
        one.say(3, 1, false);
        one.say(4, 1, true);
        due("one of six", one.saying(0, 1), 16);
        due("five of six", one.saying(1, 1), 83);
        // For the BAND that says it, as it KNOWS now: MAP 1 is as its own.
        one.show(1, 3, 0);
        due("none of four", one.saying(0, 1), 0);
        due("all four", one.saying(1, 1), 100);
        due("one of six for another BAND", one.saying(2, 1), 16);
        SixMaps none = told("mark 1 1;");
        due("no liars: it lies", none.saying(none.say(0, 0, true), 1), 0);
        due("no liars: it does not", none.saying(none.say(0, 0, false), 1), 100);
        SixMaps empty = new SixMaps();
        due("no MARKS: it does not", empty.saying(empty.say(0, 0, false), 1), 100);
    }

    private static void sayingBounds() {
        by("Promise 24", "Of a SAYING: what = 0 TRUE (1, 0), 1 LIKELY (NONE). UNKNOWN, OUTSIDE.");
        SixMaps x = told("mark 1 1;lie 5 0 9 9;");
        due("saying(0, 0), none yet", x.saying(0, 0), UNKNOWN);
        due("saying(0, 2), none yet", x.saying(0, 2), UNKNOWN);
        x.say(0, 5, true);
        x.say(0, 5, false);
        due("saying(1, 0), the last", x.saying(1, 0), 0);
        for (int i : new int[] {-1, 2, 20, LEAST, MOST}) {
            due("saying(" + i + ", 0)", x.saying(i, 0), UNKNOWN);
            due("saying(" + i + ", 2)", x.saying(i, 2), UNKNOWN);
        }
        for (int what : new int[] {-1, 2, LEAST, MOST}) {
            due("saying(0, " + what + ")", x.saying(0, what), OUTSIDE);
        }
    }

    private static void loudest() {
        by("Terms 3", "LOUDEST: the BAND with most SAYINGS that are not TRUE; of like ones the least; NONE.");
        SixMaps x = told("mark 1 1;lie 5 0 9 9;");
        due("no SAYINGS", x.loudest(), NONE);
        x.say(0, 5, true);
        x.say(0, 0, false);
        due("all TRUE", x.loudest(), NONE);
        x.say(5, 0, true);
        due("one that is not", x.loudest(), 5);
        x.say(3, 5, false);
        due("like ones", x.loudest(), 3);
        x.say(0, 5, false);
        due("like ones, the first BAND", x.loudest(), 0);
        x.say(5, 1, true);
        due("most, not least", x.loudest(), 5);
        x.say(3, 1, false);
        due("a TRUE one does not count", x.loudest(), 5);
        by("Promise 25", "LOUDEST; NONE.");
        SixMaps first = told("mark 1 1;lie 5 0 9 9;");
        first.say(2, 0, true);
        due("the first SAYING alone", first.loudest(), 2);
        for (int i = 0; i < 18; i++) {
            first.say(1, 5, true);
        }
        first.say(0, 0, true);
        due("the first and the last", first.loudest(), 0);
        due("new: loudest()", new SixMaps().loudest(), NONE);
        SixMaps all = told("mark 1 1;");
        for (int i = 0; i < 20; i++) {
            all.say(i < 10 ? 5 : 4, 0, true);
        }
        due("ten each", all.loudest(), 4);
    }

    // ---- hunts

    private static void huntDays() {
        by("Promise 26", "A HUNT of n days (1 .. 20): the BAND that found it; NONE.");
        // For a prize of 0 nobody digs: a day has six TRADES, three DRAWS each.
        for (int n : new int[] {1, 2, 19, 20}) {
            SixMaps x = told(NINE + "prize 0;");
            due("hunt(" + n + ")", x.hunt(n), NONE);
            due("seed, " + n + " days on", seedOf(x), next(0, 18 * n));
        }
        SixMaps x = told(NINE + "prize 0;");
        for (int n : new int[] {0, 21, -1, LEAST, MOST}) {
            due("hunt(" + n + ")", x.hunt(n), OUTSIDE);
        }
        due("seed, refused", seedOf(x), 0);
        due("knows(0, 1), refused", x.knows(0, 1), 0);
    }

    private static void huntNot() {
        by("Promise 26", "OUTSIDE, NOT: it was found already, no MARKS.");
        SixMaps x = told("mark 50 50;");
        due("hunt(20)", x.hunt(20), 0);
        due("found: hunt(1)", x.hunt(1), NOT);
        due("found: hunt(20)", x.hunt(20), NOT);
        due("found: hunt(0)", x.hunt(0), OUTSIDE);
        due("found: hunt(21)", x.hunt(21), OUTSIDE);
        SixMaps dug = told("mark 50 50;");
        dug.dig(4, 50, 50);
        due("dug: hunt(1)", dug.hunt(1), NOT);
        due("dug: told(11)", dug.told(11), 4);
        for (SixMaps none : new SixMaps[] {new SixMaps(), told("prize 1;")}) {
            due("no MARKS: hunt(1)", none.hunt(1), NOT);
            due("no MARKS: hunt(20)", none.hunt(20), NOT);
            due("no MARKS: hunt(0)", none.hunt(0), OUTSIDE);
            due("no MARKS: hunt(21)", none.hunt(21), OUTSIDE);
            due("no MARKS: seed", seedOf(none), 0);
        }
    }

    private static void worthAbove0() {
        by("Terms 3", "if WORTH of its best spade is above 0, it digs there");
        for (int prize = 9; prize <= 11; prize++) {
            SixMaps x = told("mark 50 50;prize " + prize + ";");
            due("WORTH of V " + prize, x.best(0, 3), prize - 10);
            due("hunt(1)", x.hunt(1), prize > 10 ? 0 : NONE);
            due("purse(0)", x.purse(0), prize > 10 ? 1 : 0);
            due("seed", seedOf(x), prize > 10 ? 0 : next(0, 18));
        }
        // No PLACE is none, whatever the prize.
        SixMaps loose = told("within 1;mark 50 50;prize 9999;spade 0;");
        due("no PLACE: hunt(1)", loose.hunt(1), NONE);
        due("no PLACE: seed", seedOf(loose), next(0, 18));
    }

    private static void digsAndPays() {
        by("Terms 3", "(pays the price; finds it, if it lies there: V, the HUNT is over; else it is one of SPADES, if there is room)");
        // BANDS 0 and 1 dig where their MAPS lead them, BAND 2 finds it; nobody behind it does anything.
        SixMaps x = told("mark 50 50;lie 0 0 60 60;lie 1 0 40 40;prize 9999;spade 999;");
        due("hunt(20)", x.hunt(20), 2);
        int[] purses = {-999, -999, 9000, 0, 0, 0};
        for (int b = 0; b < 6; b++) {
            due("purse(" + b + ")", x.purse(b), purses[b]);
        }
        due("told(9)", x.told(9), 2);
        due("told(11)", x.told(11), 2);
        due("seed", seedOf(x), 0);
    }

    private static void roomForSpades() {
        by("Terms 3", "else it is one of SPADES, if there is room");
        for (int n = 18; n <= 20; n++) {
            SixMaps x = told("mark 50 50;lie 0 0 60 60;prize 60;spade 40;");
            for (int i = 0; i < n; i++) {
                x.dig(5, 1, 1);
            }
            // BAND 0 has it at 60 60 and pays for nothing, room or not; BAND 1 finds it.
            due("hunt(1)", x.hunt(1), 1);
            due("told(9)", x.told(9), Math.min(20, n + 1));
            due("purse(0)", x.purse(0), -40);
            due("purse(1)", x.purse(1), 20);
            // One of SPADES fells what leads there; without room nobody has heard of it.
            due("may(0, NONE)", x.may(0, NONE), n < 20 ? 1 : 6);
            if (n == 20) {
                due("found with all SPADES: dig", x.dig(0, 1, 1), NOT);
            }
        }
    }

    private static void tradesOfADay() {
        by("Terms 3", "else it TRADES with a BAND by a DRAW of 5 (of the others, rising): "
                + "a MARK by a DRAW of how many there are, its own one first, then the other's");
        String[] texts = {"mark 1 1;prize 0;", "mark 1 1;mark 2 2;prize 0;", NINE + "prize 0;"};
        int[] marks = {1, 2, 9};
        boolean[][] drawn = new boolean[6][6];
        for (int t = 0; t < 3; t++) {
            for (int turn = 0; turn < 40; turn++) {
                int seed = (int) (turn * 123456791L % 2147483648L);
                SixMaps x = told(texts[t]);
                x.seed(seed);
                due("hunt(1)", x.hunt(1), NONE);
                int[] known = new int[36];
                int s = seed;
                for (int b = 0; b < 6; b++) {
                    s = next(s);
                    int other = s / 65536 % 5;
                    other += other < b ? 0 : 1;
                    drawn[b][other] = true;
                    s = next(s);
                    known[other * 6 + b] |= 1 << s / 65536 % marks[t];
                    s = next(s);
                    known[b * 6 + other] |= 1 << s / 65536 % marks[t];
                }
                for (int b = 0; b < 6; b++) {
                    for (int m = 0; m < 6; m++) {
                        due("knows(" + b + ", " + m + ")", x.knows(b, m), b == m ? (1 << marks[t]) - 1 : known[b * 6 + m]);
                    }
                }
                due("seed", seedOf(x), s);
            }
        }
        for (int b = 0; b < 6; b++) {
            Check.holds("BAND " + b + " has drawn the first and the last of the others", drawn[b][b == 0 ? 1 : 0] && drawn[b][b == 5 ? 4 : 5]);
        }
    }

    private static void knownStaysSo() {
        by("Terms 3", "(what is KNOWN already stays so)");
        SixMaps x = told("mark 1 1;mark 2 2;prize 0;");
        for (int a = 0; a < 6; a++) {
            for (int b = 0; b < 6; b++) {
                x.show(a, b, 0);
                x.show(a, b, 1);
            }
        }
        due("hunt(20)", x.hunt(20), NONE);
        for (int i = 0; i < 36; i++) {
            due("knows(" + i / 6 + ", " + i % 6 + ")", x.knows(i / 6, i % 6), 3);
        }
        due("seed, drawn all the same", seedOf(x), next(0, 360));
    }

    private static void endedWhenFound() {
        by("Terms 3", "ENDED: n days or found.");
        // BAND 0 digs for nothing, BAND 1 finds it: the day is not ended, and BANDS 2 to 5 do not trade.
        SixMaps x = told("mark 50 50;lie 0 0 60 60;");
        due("hunt(1)", x.hunt(1), 1);
        due("seed", seedOf(x), 0);
        for (int i = 0; i < 36; i++) {
            due("knows(" + i / 6 + ", " + i % 6 + ")", x.knows(i / 6, i % 6), i / 6 == i % 6 ? 1 : 0);
        }
        // The last BAND of the only day; whom a TRADE tells enough digs before it, so a seed is taken by which none is told.
        for (int seed = 0; seed < 1000; seed++) {
            SixMaps last = lastKnowsBest();
            last.seed(seed);
            if (last.hunt(1) == 5) {
                due("told(11)", last.told(11), 5);
                due("purse(5)", last.purse(5), 15);
                due("seed, five TRADES on", seedOf(last), next(seed, 15));
                return;
            }
        }
        Check.holds("there is a seed by which the last BAND finds it", false);
    }

    /** WORTH is above 0 for BAND 5 alone. */
    private static SixMaps lastKnowsBest() {
        SixMaps x = told("mark 50 50;mark 60 60;lie 0 1 90 90;spade 85;");
        for (int a = 0; a < 5; a++) {
            showAll(x, a, 5);
        }
        due("WORTH for the others", x.best(0, 3), 100 * 5 / 6 - 85);
        due("WORTH for the last one", x.best(5, 3), 15);
        return x;
    }

    /** A HUNT of n days is n HUNTS of a day, and one that ends by a find does not go on. */
    private static void dayByDay() {
        by("Terms 3", "a day: BANDS in order");
        // Of nine MARKS one tells where to dig: mostly it takes some days till it was shown.
        String text = NINE + "lie 5 0 50 50;spade 85;";
        int later = 0;
        for (int seed = 0; seed < 30; seed++) {
            SixMaps whole = told(text);
            SixMaps days = told(text);
            whole.seed(seed);
            days.seed(seed);
            int found = NONE;
            int n = 0;
            while (n < 20 && found == NONE) {
                found = days.hunt(1);
                n++;
            }
            later += found != NONE && n > 1 ? 1 : 0;
            due("hunt(20) by seed " + seed, whole.hunt(20), found);
            due("seed", seedOf(whole), seedOf(days));
            due("told(9)", whole.told(9), days.told(9));
            for (int b = 0; b < 6; b++) {
                due("purse(" + b + ")", whole.purse(b), days.purse(b));
                due("knows(" + b + ", 0)", whole.knows(b, 0), days.knows(b, 0));
            }
        }
        Check.holds("some are found on a later day", later > 0);
    }

    // ---- draws

    private static void theSeedAtFirst() {
        by("Terms 3", "A HUNT by draws: THE SEED (0 at first");
        SixMaps x = new SixMaps();
        due("seed(7)", x.seed(7), 0);
        due("seed(7) again", x.seed(7), 7);
        // It is none of what island() sets anew.
        Check.feed(x, "mark 1 1;");
        x.island();
        due("seed behind island()", seedOf(x), 7);
        Check.feed(x, "oops");
        x.island();
        due("seed behind a fault", seedOf(x), 7);
    }

    private static void drawsThatWrap() {
        by("Terms 3", "each DRAW it becomes it times 1103515245 and 12345, left over by 2 to the 31; the DRAW of n is it / 65536, left over by n)");
        due("by hand: 0", next(0), 12345);
        due("by hand: 1 does not wrap", next(1), 1103527590);
        due("by hand: 2 does", next(2), 59559187);
        int[] seeds = {0, 1, 2, 3, 65535, 65536, 1 << 30, MOST - 1, MOST, ahead(0), ahead(MOST), ahead(65535), ahead(65536),
            ahead(ahead(0)), ahead(ahead(MOST)), ahead(ahead(ahead(0))), ahead(ahead(ahead(MOST)))};
        for (int seed : seeds) {
            // BAND 0 has five of six SETS, too few for the price, and TRADES; BAND 1 was shown MAP 2, digs and finds it: three DRAWS.
            SixMaps x = told(NINE + "lie 5 0 50 50;spade 85;");
            showAll(x, 2, 1);
            x.seed(seed);
            due("hunt(20)", x.hunt(20), 1);
            int other = 1 + next(seed) / 65536 % 5;
            int own = next(seed, 2) / 65536 % 9;
            int others = next(seed, 3) / 65536 % 9;
            for (int m = 1; m < 6; m++) {
                due("knows(" + m + ", 0) by seed " + seed, x.knows(m, 0), m == other ? 1 << own : 0);
                due("knows(0, " + m + ") by seed " + seed, x.knows(0, m), m == other ? 1 << others : 0);
            }
            due("seed behind three DRAWS from " + seed, seedOf(x), next(seed, 3));
        }
    }

    private static void for512Calls() {
        by("What it is", "An object is used for at most 512 calls after it has been made");
        SixMaps x = new SixMaps();
        int calls = (NINE.length() + "prize 0;".length() + 7) / 8 + 1;
        Check.feed(x, NINE + "prize 0;");
        due("island()", x.island(), 9);
        // The dearest calls, too, as often as there may be any; nobody digs, so a HUNT has 360 DRAWS.
        int hunts = 0;
        for (; calls < 509; calls += 2) {
            hunts++;
            due("hunt(20)", x.hunt(20), NONE);
            due("bestCorner(5, 2)", x.bestCorner(5, 2) >= NONE ? 1 : 0, 1);
        }
        due("calls so far", calls, 509);
        due("told(0), call 510", x.told(0), 9);
        due("knows(5, 0), call 511", x.knows(5, 0), 511);
        due("seed(0), call 512", x.seed(0), next(0, 360 * hunts));
    }

    private static void seedBounds() {
        by("Promise 27", "THE SEED becomes v (0 .. 2147483647): what it was. OUTSIDE.");
        SixMaps x = new SixMaps();
        due("seed(0)", x.seed(0), 0);
        due("seed(most)", x.seed(2147483647), 0);
        due("seed(-1)", x.seed(-1), OUTSIDE);
        due("seed(least)", x.seed(LEAST), OUTSIDE);
        due("seed(1)", x.seed(1), 2147483647);
        due("seed(0) again", x.seed(0), 1);
        due("seed(0), the last", x.seed(0), 0);
    }

    // ---- images

    private static void images() {
        by("Promise 28", "IMAGE i becomes what is so: 1. UNKNOWN.");
        SixMaps x = new SixMaps();
        due("new: keep(0)", x.keep(0), 1);
        due("new: keep(1)", x.keep(1), 1);
        for (int i : new int[] {-1, 2, LEAST, MOST}) {
            due("keep(" + i + ")", x.keep(i), UNKNOWN);
            due("goBack(" + i + ")", x.goBack(i), UNKNOWN);
        }
        due("new: goBack(0)", x.goBack(0), 1);
        due("new: goBack(1)", x.goBack(1), 1);
        // Kept again it is what is so now.
        SixMaps y = told("mark 50 50;");
        y.keep(0);
        y.show(1, 0, 0);
        y.keep(0);
        y.show(2, 0, 0);
        due("goBack(0)", y.goBack(0), 1);
        due("knows(0, 1)", y.knows(0, 1), 1);
        due("knows(0, 2)", y.knows(0, 2), 0);
    }

    private static void imagesKeep() {
        by("Terms 3", "IMAGES 0, 1 keep what BANDS KNOW, SPADES, purses, whether it was found, THE SEED.");
        for (int i = 0; i < 2; i++) {
            SixMaps x = told(NINE + "lie 0 0 50 50;");
            x.seed(MOST);
            x.show(5, 0, 8);
            x.dig(3, 50, 50);
            x.keep(i);
            x.seed(4);
            x.show(5, 0, 7);
            x.show(0, 5, 0);
            x.dig(3, 9, 9);
            x.dig(5, 1, 1);
            due("told(11), it was found", x.told(11), 5);
            due("goBack(" + i + ")", x.goBack(i), 1);
            due("seed", seedOf(x), MOST);
            due("knows(0, 5)", x.knows(0, 5), 256);
            due("knows(5, 0)", x.knows(5, 0), 0);
            due("told(9)", x.told(9), 1);
            due("purse(3)", x.purse(3), -10);
            due("purse(5)", x.purse(5), 0);
            due("told(11)", x.told(11), NONE);
            // The SPADE is where it was: by it MAP 0 must lie, once it is KNOWN.
            x.show(0, 1, 0);
            due("may(1, NONE)", x.may(1, NONE), 1);
            due("may(1, 0)", x.may(1, 0), 1);
            // Found as it was found.
            x.dig(5, 1, 1);
            x.keep(1 - i);
            x.goBack(i);
            due("told(11), not found", x.told(11), NONE);
            x.goBack(1 - i);
            due("told(11), found", x.told(11), 5);
            due("dig, found", x.dig(0, 1, 1), NOT);
            due("purse(5), found", x.purse(5), 90);
        }
    }

    /** Two IMAGES with a SPADE each: which one it is tells what it fells. */
    private static void spadesOfImages() {
        by("Terms 3", "IMAGES 0, 1 keep what BANDS KNOW, SPADES, purses, whether it was found, THE SEED.");
        int[][] others = {{1, 9}, {9, 1}, {1, 1}};
        for (int[] other : others) {
            SixMaps x = told("mark 50 50;lie 0 0 9 9;");
            x.show(1, 0, 0);
            x.keep(0);
            x.dig(5, 9, 9);
            x.keep(1);
            x.goBack(0);
            x.dig(5, other[0], other[1]);
            x.keep(0);
            for (int turn = 0; turn < 2; turn++) {
                x.goBack(1);
                due("dug where MAP 0 leads: may(0, NONE)", x.may(0, NONE), 1);
                x.goBack(0);
                due("dug elsewhere: may(0, NONE)", x.may(0, NONE), 2);
            }
        }
    }

    private static void imagesKeepNoMore() {
        by("Promise 29", "What is so becomes IMAGE i: 1.");
        // SAYINGS, THE TEXT, the latest fault and THE ISLAND are none of what an IMAGE keeps.
        SixMaps x = told("mark 50 50;lie 0 0 60 60;");
        x.say(0, 0, true);
        x.keep(0);
        x.say(1, 0, false);
        Check.feed(x, "oops");
        x.island();
        Check.feed(x, "prize 5");
        due("goBack(0)", x.goBack(0), 1);
        due("told(10)", x.told(10), 2);
        due("loudest()", x.loudest(), 1);
        due("fault()", x.fault(), 0);
        due("told(8)", x.told(8), 7);
        x.forget();
        due("goBack(0) again", x.goBack(0), 1);
        due("told(10), forgotten", x.told(10), 0);
        due("told(0)", x.told(0), 1);
    }

    private static void imagesAreCopies() {
        by("Promise 29", "What is so becomes IMAGE i: 1.");
        SixMaps x = told("mark 50 50;mark 60 60;lie 0 0 70 70;");
        x.keep(0);
        x.show(1, 0, 0);
        x.dig(2, 70, 70);
        x.keep(1);
        // What comes behind goBack changes no IMAGE, and IMAGES do not change one another.
        for (int turn = 0; turn < 3; turn++) {
            due("goBack(0)", x.goBack(0), 1);
            due("image 0: knows(0, 1)", x.knows(0, 1), 0);
            due("image 0: told(9)", x.told(9), 0);
            due("image 0: purse(2)", x.purse(2), 0);
            due("image 0: may(0, NONE)", x.may(0, NONE), 6);
            due("image 0: seed", seedOf(x), 0);
            x.show(1, 0, 1);
            x.dig(2, 50, 50);
            x.seed(9);
            due("goBack(1)", x.goBack(1), 1);
            due("image 1: knows(0, 1)", x.knows(0, 1), 1);
            due("image 1: told(9)", x.told(9), 1);
            due("image 1: purse(2)", x.purse(2), -10);
            due("image 1: may(0, NONE)", x.may(0, NONE), 1);
            due("image 1: told(11)", x.told(11), NONE);
            due("image 1: seed", seedOf(x), 0);
            x.dig(3, 1, 1);
            x.trade(4, 0, 5, 1);
            x.seed(8);
        }
    }

    private static void goBackNot() {
        by("Promise 29", "UNKNOWN, NOT: it was not kept.");
        SixMaps x = told("mark 50 50;");
        due("goBack(0)", x.goBack(0), NOT);
        due("goBack(1)", x.goBack(1), NOT);
        x.keep(0);
        due("goBack(1), the other was kept", x.goBack(1), NOT);
        due("goBack(0), kept", x.goBack(0), 1);
        due("goBack(0), kept still", x.goBack(0), 1);
        Check.feed(x, "oops");
        x.island();
        due("goBack(0), behind a fault", x.goBack(0), 1);
        x.island();
        due("goBack(0), IMAGES are gone", x.goBack(0), NOT);
        SixMaps y = told("mark 50 50;");
        y.keep(1);
        due("goBack(0), only 1 was kept", y.goBack(0), NOT);
        due("goBack(1), kept", y.goBack(1), 1);
        y.island();
        due("goBack(1), IMAGES are gone", y.goBack(1), NOT);
    }
}
