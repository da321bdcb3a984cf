import java.util.Arrays;

/** The edges of what is known: 'Terms' 2 and promises 6 to 16. */
public final class KnownEdgeTests extends Edge {
    private static final String THREE = "mark 10 20;mark 30 50;mark 25 60;goal 0 1 2;";
    /** Steps to the right, left, up, down: what holds at one side of a BOX holds at the others. */
    private static final int[][] SIDES = {{1, 0}, {-1, 0}, {0, 1}, {0, -1}};

    private KnownEdgeTests() {
    }

    public static void main(String[] args) {
        marks();
        maps();
        leads();
        leadsWithoutMarks();
        ownMaps();
        bitsOfSets();
        knows();
        show();
        shown();
        showNot();
        trade();
        tradeNot();
        digBounds();
        digAnswers();
        digNot();
        digFull();
        purses();
        boxesThatMeet();
        placesLeft();
        placesWithinAll();
        allPlaces();
        offOnce();
        quarrels();
        quarrelsOfBoxes();
        quarrelsWithOthersKnown();
        couldBeOffUnknown();
        couldBeOffWithinBox();
        spadesFell();
        spadesFellOnePlace();
        twentySpades();
        areaByPlaces();
        mayCounts();
        mayIndex();
        sureAndClear();
        sureBounds();
        areaBounds();
        areaNot();
        Check.spokenOf("Terms 2");
        Check.spokenOfPromises(6, 16);
        Check.end();
    }

    private static void setsAre(String when, SixMaps x, int b, int... sets) {
        due(when + ": may(" + b + ", NONE)", x.may(b, NONE), sets.length);
        for (int i = 0; i < sets.length; i++) {
            due(when + ": may(" + b + ", " + i + ")", x.may(b, i), sets[i]);
        }
    }

    private static String at(int[] side, int steps, int x, int y) {
        return (x + side[0] * steps) + " " + (y + side[1] * steps);
    }

    // ---- promises 6 to 9

    private static void marks() {
        by("Promise 6", "Where a MARK is: what = 0 X, 1 Y. UNKNOWN, OUTSIDE.");
        int[] numbers = {0, 1, 9};
        String[] texts = {"", "mark 7 8;", NINE};
        for (int i = 0; i < 3; i++) {
            SixMaps x = told(texts[i]);
            due("mark, the next one", x.mark(numbers[i], 0), UNKNOWN);
            due("mark(-1, 0)", x.mark(-1, 0), UNKNOWN);
            due("mark(least, 0)", x.mark(LEAST, 0), UNKNOWN);
            due("mark(most, 0)", x.mark(MOST, 0), UNKNOWN);
            due("mark(-1, 2)", x.mark(-1, 2), UNKNOWN);
        }
        SixMaps x = told("mark 7 8;");
        due("mark(0, 0)", x.mark(0, 0), 7);
        due("mark(0, 1)", x.mark(0, 1), 8);
        for (int what : new int[] {-1, 2, LEAST, MOST}) {
            due("mark(0, " + what + ")", x.mark(0, what), OUTSIDE);
        }
        SixMaps nine = told(NINE);
        due("mark(8, 1), the last", nine.mark(8, 1), 9);
    }

    private static void maps() {
        by("Promise 7", "Where a MARK is on a MAP: what = 0 X, 1 Y. UNKNOWN, OUTSIDE.");
        SixMaps x = told("within 3;" + NINE + "lie 0 0 99 0;err 5 8 6 12;");
        due("map(0, 0, 0)", x.map(0, 0, 0), 99);
        due("map(0, 0, 1)", x.map(0, 0, 1), 0);
        due("map(5, 8, 0)", x.map(5, 8, 0), 6);
        due("map(5, 8, 1)", x.map(5, 8, 1), 12);
        due("map(4, 8, 0)", x.map(4, 8, 0), 9);
        for (int m : NO_BANDS) {
            due("map(" + m + ", 0, 0)", x.map(m, 0, 0), UNKNOWN);
            due("map(" + m + ", 0, 2)", x.map(m, 0, 2), UNKNOWN);
        }
        for (int k : new int[] {-1, 9, LEAST, MOST}) {
            due("map(0, " + k + ", 0)", x.map(0, k, 0), UNKNOWN);
            due("map(0, " + k + ", 2)", x.map(0, k, 2), UNKNOWN);
        }
        for (int what : new int[] {-1, 2, LEAST, MOST}) {
            due("map(0, 0, " + what + ")", x.map(0, 0, what), OUTSIDE);
        }
        due("map(0, 0, 0) without MARKS", told("").map(0, 0, 0), UNKNOWN);
    }

    private static void leads() {
        by("Promise 8", "AREA by a MAP alone: what = 0, 1 X from, to, 2, 3 Y.");
        for (int e : new int[] {0, 1, 9}) {
            SixMaps x = told("within " + e + ";" + THREE + "lie 5 2 90 10;");
            int[] honest = {15 - 3 * e, 15 + 3 * e, 10 - 3 * e, 10 + 3 * e};
            int[] liar = {-50 - 3 * e, -50 + 3 * e, 60 - 3 * e, 60 + 3 * e};
            for (int what = 0; what < 4; what++) {
                due("leads(0, " + what + ")", x.leads(0, what), honest[what]);
                due("leads(5, " + what + ")", x.leads(5, what), liar[what]);
            }
            for (int m : NO_BANDS) {
                due("leads(" + m + ", 0)", x.leads(m, 0), UNKNOWN);
                due("leads(" + m + ", 4)", x.leads(m, 4), UNKNOWN);
            }
            for (int what : new int[] {-1, 4, LEAST, MOST}) {
                due("leads(0, " + what + ")", x.leads(0, what), OUTSIDE);
            }
        }
        by("Terms 2", "by a MAP alone: to which its BOXES lead.");
        // Each MAP by its own errs, whatever the others have and whoever KNOWS them.
        SixMaps x = told("within 2;" + THREE + "err 1 0 11 7;err 1 2 8 10;err 3 1 9 11;");
        int[][] ends = {{15, 10}, {10 + 2 + 30 - (25 - 1), 20 - 2 + 50 - (60 + 1)}, {15, 10}, {15, 10 + 2}};
        for (int m = 0; m < 4; m++) {
            for (int what = 0; what < 4; what++) {
                int middle = ends[m][what / 2];
                due("by errs: leads(" + m + ", " + what + ")", x.leads(m, what), what % 2 == 0 ? middle - 6 : middle + 6);
            }
        }
        showAll(x, 1, 0);
        due("shown: leads(0, 0)", x.leads(0, 0), 9);
        due("shown: leads(1, 0)", x.leads(1, 0), 12);
    }

    private static void leadsWithoutMarks() {
        by("Promise 8", "UNKNOWN, OUTSIDE, NOT: no MARKS.");
        SixMaps x = told(THREE);
        x.island();
        for (SixMaps none : new SixMaps[] {new SixMaps(), told("spade 1;"), x}) {
            due("leads(0, 0)", none.leads(0, 0), NOT);
            due("leads(5, 3)", none.leads(5, 3), NOT);
            due("leads(0, 4)", none.leads(0, 4), OUTSIDE);
            due("leads(0, -1)", none.leads(0, -1), OUTSIDE);
            due("leads(6, 0)", none.leads(6, 0), UNKNOWN);
            due("leads(-1, 4)", none.leads(-1, 4), UNKNOWN);
        }
    }

    private static void ownMaps() {
        by("Terms 2", "A BAND KNOWS all MARKS of its own MAP and such of others as it was shown.");
        int[] alls = {0, 1, 511};
        String[] texts = {"", "mark 7 8;", NINE};
        for (int i = 0; i < 3; i++) {
            SixMaps x = told(texts[i]);
            for (int b = 0; b < 6; b++) {
                for (int m = 0; m < 6; m++) {
                    due("knows(" + b + ", " + m + ")", x.knows(b, m), b == m ? alls[i] : 0);
                }
            }
        }
    }

    private static void bitsOfSets() {
        by("Terms", "A SET is a whole number, bit k for k.");
        for (int k = 0; k < 9; k++) {
            SixMaps x = told(NINE);
            x.show(5, 0, k);
            due("knows(0, 5)", x.knows(0, 5), 1 << k);
        }
        for (int m = 0; m < 6; m++) {
            SixMaps x = told("mark 1 1;lie " + m + " 0 9 9;");
            int b = m == 0 ? 5 : 0;
            for (int a = 0; a < 6; a++) {
                x.show(a, b, 0);
            }
            due("may(" + b + ", 0)", x.may(b, 0), 1 << m);
            due("sure(" + b + ", 0)", x.sure(b, 0), 1 << m);
        }
        by("Terms", "What has a number has it from 0 on, as it comes.");
        SixMaps x = told("mark 9 1;mark 2 8;mark 5 5;");
        due("mark(0, 0), the first", x.mark(0, 0), 9);
        due("mark(1, 0)", x.mark(1, 0), 2);
        due("mark(2, 0), the last", x.mark(2, 0), 5);
    }

    private static void knows() {
        by("Promise 9", "MARKS of MAP m that BAND b KNOWS: the SET. UNKNOWN.");
        SixMaps x = told(NINE);
        int set = 0;
        for (int k = 8; k >= 0; k--) {
            x.show(5, 0, k);
            set |= 1 << k;
            due("knows(0, 5)", x.knows(0, 5), set);
        }
        due("knows(5, 0), who showed", x.knows(5, 0), 0);
        for (int b : NO_BANDS) {
            due("knows(" + b + ", 0)", x.knows(b, 0), UNKNOWN);
            due("knows(0, " + b + ")", x.knows(0, b), UNKNOWN);
            due("knows(" + b + ", " + b + ")", x.knows(b, b), UNKNOWN);
        }
    }

    // ---- promises 10, 11

    private static void show() {
        by("Promise 10", "BAND a shows BAND b MARK k of its MAP: how many MARKS of it b KNOWS.");
        SixMaps x = told(NINE);
        for (int k = 0; k < 9; k++) {
            due("show(0, 5, " + k + ")", x.show(0, 5, k), k + 1);
        }
        due("knows(5, 0)", x.knows(5, 0), 511);
        due("knows(0, 5)", x.knows(0, 5), 0);
        due("show(5, 0, 8)", x.show(5, 0, 8), 1);
    }

    private static void shown() {
        by("Terms 2", "SHOWN: one BAND shows another one a MARK of its MAP.");
        // Of its own MAP, not of one that was shown to it; nobody else sees it.
        for (int a = 0; a < 6; a++) {
            for (int b = 0; b < 6; b++) {
                if (a != b) {
                    SixMaps x = told(NINE);
                    x.show(a, b, 8);
                    for (int i = 0; i < 36; i++) {
                        int own = i / 6 == i % 6 ? 511 : 0;
                        due("knows(" + i / 6 + ", " + i % 6 + ")", x.knows(i / 6, i % 6), i == b * 6 + a ? 256 : own);
                    }
                }
            }
        }
        by("Terms 2", "A TRADE: both show one another a MARK each.");
        SixMaps y = told(NINE);
        y.trade(0, 8, 5, 1);
        for (int i = 0; i < 36; i++) {
            int own = i / 6 == i % 6 ? 511 : 0;
            due("knows(" + i / 6 + ", " + i % 6 + ")", y.knows(i / 6, i % 6), i == 5 * 6 ? 256 : i == 5 ? 2 : own);
        }
    }

    private static void showNot() {
        by("Promise 10", "UNKNOWN (one twice), NOT: it KNOWS it already.");
        SixMaps x = told(NINE);
        x.show(0, 5, 8);
        due("show(0, 5, 8) again", x.show(0, 5, 8), NOT);
        due("show(0, 5, 7)", x.show(0, 5, 7), 2);
        for (int b : NO_BANDS) {
            due("show(" + b + ", 0, 0)", x.show(b, 0, 0), UNKNOWN);
            due("show(0, " + b + ", 0)", x.show(0, b, 0), UNKNOWN);
            due("show(" + b + ", " + b + ", 0)", x.show(b, b, 0), UNKNOWN);
        }
        for (int b = 0; b < 6; b++) {
            due("show(" + b + ", " + b + ", 0), one twice", x.show(b, b, 0), UNKNOWN);
        }
        for (int k : new int[] {-1, 9, 32, LEAST, MOST}) {
            due("show(0, 5, " + k + ")", x.show(0, 5, k), UNKNOWN);
        }
        due("show(0, 5, 0) without MARKS", told("").show(0, 5, 0), UNKNOWN);
        due("knows(5, 0), as it was", x.knows(5, 0), 256 + 128);
    }

    private static void trade() {
        by("Promise 11", "A TRADE: MARK k of BAND a's for MARK j of BAND b's: 1.");
        SixMaps x = told(NINE);
        due("trade(0, 8, 5, 0)", x.trade(0, 8, 5, 0), 1);
        due("knows(5, 0)", x.knows(5, 0), 256);
        due("knows(0, 5)", x.knows(0, 5), 1);
        due("trade(5, 8, 0, 0)", x.trade(5, 8, 0, 0), 1);
        due("knows(5, 0)", x.knows(5, 0), 257);
        due("knows(0, 5)", x.knows(0, 5), 257);
        for (int k = 1; k < 8; k++) {
            due("trade(0, " + k + ", 5, " + k + ")", x.trade(0, k, 5, k), 1);
        }
        due("knows(5, 0), all", x.knows(5, 0), 511);
        due("knows(0, 5), all", x.knows(0, 5), 511);
    }

    private static void tradeNot() {
        by("Promise 11", "UNKNOWN (one twice), NOT: either KNOWS it already.");
        SixMaps x = told(NINE);
        x.show(0, 5, 3);
        due("the one KNOWS it", x.trade(0, 3, 5, 4), NOT);
        due("the one KNOWS it, the other way round", x.trade(5, 4, 0, 3), NOT);
        x.show(5, 0, 6);
        due("the other KNOWS it", x.trade(0, 4, 5, 6), NOT);
        due("both KNOW it", x.trade(0, 3, 5, 6), NOT);
        due("knows(5, 0), as it was", x.knows(5, 0), 8);
        due("knows(0, 5), as it was", x.knows(0, 5), 64);
        for (int b : NO_BANDS) {
            due("trade(" + b + ", 0, 5, 0)", x.trade(b, 0, 5, 0), UNKNOWN);
            due("trade(0, 0, " + b + ", 0)", x.trade(0, 0, b, 0), UNKNOWN);
        }
        for (int b = 0; b < 6; b++) {
            due("trade(" + b + ", 0, " + b + ", 1), one twice", x.trade(b, 0, b, 1), UNKNOWN);
        }
        for (int k : new int[] {-1, 9, 32, LEAST, MOST}) {
            due("trade(0, " + k + ", 5, 0)", x.trade(0, k, 5, 0), UNKNOWN);
            due("trade(0, 0, 5, " + k + ")", x.trade(0, 0, 5, k), UNKNOWN);
        }
        due("trade(0, 0, 5, 0) without MARKS", told("").trade(0, 0, 5, 0), UNKNOWN);
        due("knows(5, 0), as it was", x.knows(5, 0), 8);
        due("knows(0, 5), as it was", x.knows(0, 5), 64);
    }

    // ---- promises 12, 13

    private static void digBounds() {
        by("Promise 12", "Somebody (a BAND) digs at x, y (0 .. 99 both)");
        int[][] ends = {{0, 0}, {99, 0}, {0, 99}, {99, 99}};
        for (int[] end : ends) {
            SixMaps x = told("mark " + end[0] + " " + end[1] + ";mark 50 50;");
            due("dig(0, 50, 50)", x.dig(0, 50, 50), 0);
            due("dig(5, " + end[0] + ", " + end[1] + ")", x.dig(5, end[0], end[1]), 1);
        }
        SixMaps x = told("mark 50 50;");
        for (int out : new int[] {-1, 100, LEAST, MOST}) {
            due("dig(0, " + out + ", 50)", x.dig(0, out, 50), OUTSIDE);
            due("dig(0, 50, " + out + ")", x.dig(0, 50, out), OUTSIDE);
        }
        for (int b : NO_BANDS) {
            due("dig(" + b + ", 50, 50)", x.dig(b, 50, 50), UNKNOWN);
            due("dig(" + b + ", 100, 50)", x.dig(b, 100, 50), UNKNOWN);
        }
        due("told(9)", x.told(9), 0);
        due("told(11)", x.told(11), NONE);
    }

    private static void digAnswers() {
        by("Promise 12", "1 it was found (that BAND has V more), 0 (SPADES have it); it pays the price.");
        SixMaps x = told("mark 50 50;spade 7;prize 30;");
        int[][] beside = {{49, 50}, {51, 50}, {50, 49}, {50, 51}};
        for (int i = 0; i < 4; i++) {
            due("dig beside", x.dig(3, beside[i][0], beside[i][1]), 0);
            due("told(9)", x.told(9), i + 1);
            due("purse(3)", x.purse(3), -7 * (i + 1));
        }
        due("dig there", x.dig(4, 50, 50), 1);
        due("purse(4), the price is paid, too", x.purse(4), 23);
        due("purse(3)", x.purse(3), -28);
        due("told(9), SPADES have only what was not found", x.told(9), 4);
        due("told(11)", x.told(11), 4);
        SixMaps free = told("mark 50 50;spade 0;prize 0;");
        due("dig for nothing", free.dig(0, 50, 50), 1);
        due("purse(0)", free.purse(0), 0);
    }

    private static void digNot() {
        by("Promise 12", "UNKNOWN, OUTSIDE, NOT: it was found already, no MARKS;");
        SixMaps x = told("mark 50 50;");
        x.dig(0, 50, 50);
        due("found: dig there", x.dig(0, 50, 50), NOT);
        due("found: dig by another", x.dig(1, 50, 50), NOT);
        due("found: dig elsewhere", x.dig(1, 1, 1), NOT);
        due("found: dig outside", x.dig(1, 100, 1), OUTSIDE);
        due("found: dig by nobody", x.dig(6, 100, 1), UNKNOWN);
        due("found: purse(0)", x.purse(0), 90);
        due("found: purse(1)", x.purse(1), 0);
        due("found: told(9)", x.told(9), 0);
        due("found: told(11)", x.told(11), 0);
        for (SixMaps none : new SixMaps[] {new SixMaps(), told("prize 1;")}) {
            due("no MARKS: dig(0, 0, 0)", none.dig(0, 0, 0), NOT);
            due("no MARKS: dig(0, 0, -1)", none.dig(0, 0, -1), OUTSIDE);
            due("no MARKS: dig(-1, 0, -1)", none.dig(-1, 0, -1), UNKNOWN);
            due("no MARKS: purse(0)", none.purse(0), 0);
            due("no MARKS: told(9)", none.told(9), 0);
            due("no MARKS: told(11)", none.told(11), NONE);
        }
    }

    private static void digFull() {
        by("Promise 12", "FULL (20).");
        SixMaps x = told("mark 50 50;");
        for (int i = 0; i < 20; i++) {
            due("dig " + i, x.dig(i % 6, 1, 1), 0);
        }
        int purse = x.purse(0);
        due("dig 20", x.dig(0, 1, 1), FULL);
        due("dig 20, even there", x.dig(0, 50, 50), FULL);
        due("told(9)", x.told(9), 20);
        due("told(11)", x.told(11), NONE);
        due("purse(0)", x.purse(0), purse);
        // The last one that there is room for may find it.
        SixMaps y = told("mark 50 50;");
        for (int i = 0; i < 19; i++) {
            y.dig(0, 1, 1);
        }
        due("dig 19, there", y.dig(0, 50, 50), 1);
        due("told(9)", y.told(9), 19);
    }

    private static void purses() {
        by("Promise 13", "What a BAND has (below 0, too). UNKNOWN.");
        SixMaps x = told("mark 50 50;spade 999;prize 9999;");
        for (int i = 0; i < 19; i++) {
            x.dig(5, 1, 1);
        }
        due("purse(5), lowest but one", x.purse(5), -18981);
        x.dig(5, 1, 1);
        due("purse(5), lowest by digging", x.purse(5), -19980);
        SixMaps y = told("mark 50 50;spade 0;prize 9999;");
        y.dig(0, 50, 50);
        due("purse(0), highest", y.purse(0), 9999);
        due("purse(1)", y.purse(1), 0);
        for (int b : NO_BANDS) {
            due("purse(" + b + ")", x.purse(b), UNKNOWN);
        }
    }

    // ---- which may lie

    private static void boxesThatMeet() {
        by("Terms 2", "A MARK on a MAP is at X, Y: its BOX is X less E to X and E, Y likewise.");
        for (int[] side : SIDES) {
            // MAP 0 is five steps off: BOXES of two steps share nothing with that of MAP 1, but one row, if it is one step nearer.
            String lie = "within 2;mark 50 50;lie 0 0 " + at(side, 5, 50, 50) + ";";
            SixMaps apart = told(lie);
            apart.show(0, 1, 0);
            setsAre("apart", apart, 1, 1, 2);
            SixMaps meet = told(lie + "err 1 0 " + at(side, 1, 9, 9) + ";");
            meet.show(0, 1, 0);
            setsAre("they meet", meet, 1, 1, 2, 4, 8, 16, 32);
            int from = side[0] != 0 ? 0 : 2;
            int row = 50 + 3 * (side[0] + side[1]);
            due("area(1, 4, from)", meet.area(1, 4, from), row);
            due("area(1, 4, to)", meet.area(1, 4, from + 1), row);
        }
    }

    private static void placesLeft() {
        by("Terms 2", "A SET MAY LIE, if: of each MARK there are PLACES left");
        // Three of MAPS 0 to 2 are apart by pairs: two have to lie, and one liar is not enough for all.
        SixMaps x = told("mark 50 50;mark 60 60;lie 0 0 1 1;lie 1 0 2 2;");
        x.show(1, 0, 0);
        x.show(2, 0, 0);
        setsAre("three apart", x, 0, 3, 5, 6);
        // At another MARK, the last one, too.
        SixMaps y = told(NINE + "lie 0 8 50 50;");
        y.show(0, 1, 7);
        setsAre("agreed", y, 1, 1, 2, 4, 8, 16, 32);
        y.show(0, 1, 8);
        setsAre("apart at the last MARK", y, 1, 1, 2);
    }

    private static void placesWithinAll() {
        by("Terms 2", "PLACES left of a MARK, by a SET: those within all KNOWN BOXES of it on MAPS that are not of the SET");
        // MAP 0 has 46 to 54, MAP 1 50 to 58, MAP 2 42 to 50; in Y all have 46 to 54.
        SixMaps x = told("within 4;mark 50 50;lie 5 0 90 90;err 1 0 13 9;err 2 0 5 9;");
        placesAre("MAP 0 alone", x, 32, 46, 54);
        x.show(1, 0, 0);
        placesAre("MAPS 0 and 1", x, 32, 50, 54);
        placesAre("not MAP 1", x, 2, 46, 54);
        placesAre("not MAP 0", x, 1, 50, 58);
        x.show(2, 0, 0);
        placesAre("MAPS 0 to 2", x, 32, 50, 50);
        placesAre("MAPS 0 and 2", x, 2, 46, 50);
        placesAre("MAPS 0 and 1, all KNOWN", x, 4, 50, 54);
        // By MAPS 1 and 2 it is at 50, all within the BOX of MAP 0, which cannot lie then.
        due("MAPS 1 and 2: area(0, 1, 0)", x.area(0, 1, 0), NOT);
        // What another BAND was shown narrows nothing for this one.
        x.show(1, 3, 0);
        placesAre("as it was", x, 2, 46, 50);
    }

    /** The goal is MARK 0 three times, so that the ends of its PLACES are added and taken away. */
    private static void placesAre(String when, SixMaps x, int set, int from, int to) {
        due(when + ": X from", x.area(0, set, 0), from + from - to);
        due(when + ": X to", x.area(0, set, 1), to + to - from);
        due(when + ": Y from", x.area(0, set, 2), 38);
        due(when + ": Y to", x.area(0, set, 3), 62);
    }

    private static void allPlaces() {
        by("Terms 2", "(all places: 0 to 99 in X, in Y)");
        String text = THREE + "lie 5 0 50 50;";
        int[][] ends = {
            {10 + 0 - 99, 10 + 99 - 0, 20 + 0 - 99, 20 + 99 - 0},
            {0 + 30 - 99, 99 + 30 - 0, 0 + 50 - 99, 99 + 50 - 0},
            {0 + 0 - 25, 99 + 99 - 25, 0 + 0 - 60, 99 + 99 - 60}};
        for (int k = 0; k < 3; k++) {
            SixMaps x = told(text);
            int[] all = {-99, 198, -99, 198};
            for (int what = 0; what < 4; what++) {
                due("none KNOWN: area(0, 1, " + what + ")", x.area(0, 1, what), all[what]);
            }
            x.show(1, 0, k);
            for (int what = 0; what < 4; what++) {
                due("MARK " + k + " KNOWN: area(0, 1, " + what + ")", x.area(0, 1, what), ends[k][what]);
            }
        }
        by("Terms 2", "(all places, if none of these is KNOWN)");
        // Far apart as they are, neither of both is OFF while none but these is KNOWN.
        SixMaps y = told("mark 50 50;lie 0 0 0 0;lie 1 0 99 99;");
        y.show(1, 0, 0);
        due("none but the SET's: area(0, 3, 0)", y.area(0, 3, 0), -99);
        due("none but the SET's: area(0, 3, 1)", y.area(0, 3, 1), 198);
        y.show(2, 0, 0);
        due("one is KNOWN: area(0, 3, 0)", y.area(0, 3, 0), 50);
        due("one is KNOWN: area(0, 3, 1)", y.area(0, 3, 1), 50);
    }

    private static void offOnce() {
        by("Terms 2", "each MAP of the SET is OFF once at the most (at a KNOWN MARK of it whose BOX has none of the PLACES left)");
        for (int e : new int[] {0, 2}) {
            for (int[] side : SIDES) {
                SixMaps x = told("within " + e + ";mark 50 50;mark 20 20;mark 70 70;lie 1 0 " + at(side, 2 * e + 1, 50, 50)
                        + ";lie 2 1 " + at(side, 2 * e + 1, 20, 20) + ";");
                x.show(1, 0, 0);
                // MAP 0 is OFF once, if MAP 1 is right.
                setsAre("once", x, 0, 3, 5, 6, 9, 10, 17, 18, 33, 34);
                x.show(2, 0, 1);
                // Twice, if MAP 2 is right as well: with MAPS 3, 4, 5 it cannot lie any more.
                setsAre("twice", x, 0, 3, 5, 6);
            }
        }
    }

    private static void quarrels() {
        by("Terms 2", "are no more than MAPS of the SET that are not OFF");
        SixMaps x = told("mark 1 1;mark 2 2;mark 3 3;lie 0 0 50 50;lie 1 1 60 60;");
        x.show(1, 0, 0);
        due("one quarrel, none OFF", x.area(0, 3, 0), -99);
        x.show(1, 0, 1);
        setsAre("two quarrels, none OFF", x, 0, 3);
        for (int m = 0; m < 6; m++) {
            for (int n = 0; n < 6; n++) {
                if (m != n) {
                    quarrelOf(m, n, beside(m, n));
                }
            }
        }
    }

    private static int beside(int m, int n) {
        int y = 0;
        while (y == m || y == n) {
            y++;
        }
        return y;
    }

    /** MAP m lies at MARK 0, MAP y at MARK 1, where by MAP y both m and n are OFF. */
    private static void quarrelOf(int m, int n, int y) {
        SixMaps x = told("mark 1 1;mark 2 2;lie " + m + " 0 50 50;lie " + y + " 1 60 60;");
        String of = "quarrel of " + m + " and " + n;
        int[] sets = {1 << m | 1 << n, 1 << m | 1 << y, 1 << n | 1 << y};
        Arrays.sort(sets);
        x.show(n, m, 0);
        x.show(y, m, 1);
        setsAre(of + ", one OFF", x, m, sets);
        x.show(n, m, 1);
        due(of + ", both OFF", x.area(m, 1 << m | 1 << n, 0), NOT);
        due(of + ", both OFF: may", x.may(m, NONE), 2);
    }

    private static void quarrelsOfBoxes() {
        by("Terms 2", "two of them with BOXES that have nothing in common)");
        for (int e : new int[] {0, 1, 2, 3, 9}) {
            for (int[] side : SIDES) {
                // As above, both OFF at MARK 1: a quarrel at MARK 0 is one too many, and BOXES that meet are none.
                String text = "within " + e + ";mark 50 50;mark 20 20;lie 0 0 " + at(side, 2 * e + 1, 50, 50) + ";lie 2 1 80 80;";
                due("apart: area(0, 3, 0)", quarrelAtMark0(text).area(0, 3, 0), NOT);
                if (e > 0) {
                    due("they meet: area(0, 3, 0)", quarrelAtMark0(text + "err 1 0 " + at(side, 1, 9, 9) + ";").area(0, 3, 0), 0 + 0 - 99);
                }
            }
        }
    }

    private static SixMaps quarrelAtMark0(String text) {
        SixMaps x = told(text);
        x.show(1, 0, 0);
        x.show(1, 0, 1);
        x.show(2, 0, 1);
        return x;
    }

    private static void quarrelsWithOthersKnown() {
        by("Terms 2", "QUARRELS (MARKS that no MAP but those of the SET is KNOWN of");
        // Two quarrels; with MAP 2 KNOWN at MARK 0 MAP 0 is OFF there, and one quarrel is left to MAP 1.
        SixMaps x = told("mark 1 1;mark 2 2;mark 3 3;lie 0 0 50 50;lie 1 1 60 60;");
        showAll(x, 1, 0);
        x.show(2, 0, 0);
        setsAre("one OFF, one quarrel", x, 0, 3);
        x.show(2, 0, 1);
        setsAre("both OFF, no quarrel", x, 0, 3);
    }

    private static void couldBeOffUnknown() {
        by("Terms 2", "each that is not OFF has a MARK at which it could be: one that is not KNOWN of it");
        SixMaps x = told(NINE + "lie 5 0 50 50;");
        for (int k = 0; k < 8; k++) {
            x.show(1, 0, k);
        }
        setsAre("one MARK is not KNOWN", x, 0, 1, 2, 4, 8, 16, 32);
        x.show(1, 0, 8);
        setsAre("all agree", x, 0, 4, 8, 16, 32);
        showAll(x, 2, 0);
        showAll(x, 3, 0);
        setsAre("two may lie", x, 0, 16, 32);
        showAll(x, 4, 0);
        setsAre("the last one of which nothing is KNOWN", x, 0, 32);
        // Each of both: with one that could be OFF nowhere a pair is none.
        SixMaps y = told("mark 1 1;lie 4 0 50 50;lie 5 0 60 60;");
        y.show(1, 0, 0);
        y.show(2, 0, 0);
        setsAre("three agree", y, 0, 24, 40, 48);
    }

    private static void couldBeOffWithinBox() {
        by("Terms 2", "or of which the PLACES left are not all within its BOX");
        for (int[] side : SIDES) {
            String err = at(side, 1, 9, 9);
            SixMaps same = told("within 1;mark 50 50;lie 5 0 90 90;");
            same.show(1, 0, 0);
            setsAre("the same BOX", same, 0, 4, 8, 16, 32);
            SixMaps off = told("within 1;mark 50 50;lie 5 0 90 90;err 1 0 " + err + ";err 2 0 " + err + ";");
            off.show(1, 0, 0);
            setsAre("one row is not within", off, 0, 1, 2, 4, 8, 16, 32);
            // MAP 2 is as MAP 1 is: what is left by MAPS 0 and 2 is all within the BOX of MAP 1, up to its side.
            off.show(2, 0, 0);
            setsAre("all within, up to the side", off, 0, 1, 8, 16, 32);
        }
    }

    // ---- spades

    private static void spadesFell() {
        by("Terms 2", "SPADES (20 at most): where somebody dug and found nothing");
        // MAP 0 has it at 9 9, MAP 2 at 5 6; the SETS with MAP 2, but not MAP 0, lead to 9 9.
        SixMaps x = told("mark 5 6;lie 0 0 9 9;lie 1 0 8 8;");
        x.show(2, 0, 0);
        int[] before = {3, 5, 6, 9, 12, 17, 20, 33, 36};
        setsAre("no SPADES", x, 0, before);
        int[][] beside = {{8, 9}, {10, 9}, {9, 8}, {9, 10}, {8, 8}};
        for (int[] place : beside) {
            x.dig(5, place[0], place[1]);
            setsAre("dug beside", x, 0, before);
        }
        x.dig(5, 9, 9);
        setsAre("dug there", x, 0, 3, 5, 9, 17, 33);
        // For all BANDS: MAP 4 alone says nothing of 9 9, MAP 0 does.
        x.show(0, 4, 0);
        setsAre("by another BAND", x, 4, 3, 5, 9, 17, 33);
    }

    private static void spadesFellOnePlace() {
        by("Terms 2", "and no SPADE fells it.");
        by("Terms 2", "they fell SETS by which PLACES left of A, B, C are one PLACE each and lead there.");
        // BAND 0 lies at MARK 0: by the SET of MAP 1 it is at 50 and 30 less 25.
        SixMaps x = told(THREE + "lie 0 0 50 50;");
        x.show(1, 0, 0);
        setsAre("apart", x, 0, 1, 2);
        x.dig(3, 55, 40);
        setsAre("dug where MAP 0 leads", x, 0, 1);
        // Of A, B, C one is not one PLACE: a SPADE at any end of the AREA fells nothing.
        for (int loose = 0; loose < 3; loose++) {
            spadesAtLooseEnds(loose, "", 2, 2);
            spadesAtLooseEnds(loose, "err 1 " + loose + " 10 9;err 2 " + loose + " 8 9;", 0, 2);
            spadesAtLooseEnds(loose, "err 1 " + loose + " 9 10;err 2 " + loose + " 9 8;", 2, 0);
        }
    }

    /** By MAPS 1 to 3 two MARKS are one PLACE each, the loose one is not: digging all over, but where it lies, fells nothing. */
    private static void spadesAtLooseEnds(int loose, String errs, int wide, int high) {
        StringBuilder text = new StringBuilder("within 1;mark 40 40;mark 20 20;mark 30 30;goal 0 1 2;lie 0 0 90 40;" + errs);
        for (int k = 0; k < 3; k++) {
            text.append(k == loose ? "" : "err 1 " + k + " 10 10;err 2 " + k + " 8 8;");
        }
        SixMaps x = told(text.toString());
        showAll(x, 1, 3);
        showAll(x, 2, 3);
        String of = "MARK " + loose + ", " + wide + " wide, " + high + " high";
        due(of + ": from X", x.area(3, 16, 0), 30 - wide / 2);
        due(of + ": to X", x.area(3, 16, 1), 30 + wide / 2);
        due(of + ": from Y", x.area(3, 16, 2), 30 - high / 2);
        due(of + ": to Y", x.area(3, 16, 3), 30 + high / 2);
        int sets = x.may(3, NONE);
        for (int i = 0; i < 9; i++) {
            // In the middle it lies.
            if (i != 4) {
                due(of + ": dig " + i, x.dig(5, 29 + i / 3, 29 + i % 3), 0);
                due(of + ": may(3, NONE), dug " + i, x.may(3, NONE), sets);
            }
        }
    }

    private static void twentySpades() {
        by("Terms 2", "SPADES (20 at most)");
        for (int n = 19; n <= 20; n++) {
            SixMaps x = told("mark 5 6;lie 0 0 9 9;lie 1 0 8 8;");
            x.show(2, 0, 0);
            for (int i = 0; i < n; i++) {
                x.dig(5, 1, 1);
            }
            due("dig the next one", x.dig(5, 9, 9), n == 19 ? 0 : FULL);
            due("may(0, NONE)", x.may(0, NONE), n == 19 ? 5 : 9);
            due("told(9)", x.told(9), 20);
        }
        // The first one fells as the last one does.
        SixMaps y = told("mark 5 6;lie 0 0 9 9;lie 1 0 8 8;");
        y.show(2, 0, 0);
        y.dig(5, 9, 9);
        for (int i = 0; i < 19; i++) {
            y.dig(5, 1, 1);
        }
        due("may(0, NONE), the first SPADE", y.may(0, NONE), 5);
    }

    private static void areaByPlaces() {
        by("Terms 2", "AREA by a SET: from the least to the greatest X, Y to which PLACES left of A, B, C lead");
        // By MAPS 0 and 1 MARK 0 is at 50 to 52 and 48 to 50, MARK 1 at 18 to 22, MARK 2 at 28 to 32.
        SixMaps x = told("within 2;mark 50 50;mark 20 20;mark 30 30;goal 0 1 2;lie 5 0 90 90;err 1 0 11 7;");
        int[] own = {48 + 18 - 32, 52 + 22 - 28, 48 + 18 - 32, 52 + 22 - 28};
        int[] both = {50 + 18 - 32, 52 + 22 - 28, 48 + 18 - 32, 50 + 22 - 28};
        int[] other = {50 + 0 - 99, 54 + 99 - 0, 46 + 0 - 99, 50 + 99 - 0};
        for (int what = 0; what < 4; what++) {
            due("own MAP alone: area(0, 32, " + what + ")", x.area(0, 32, what), own[what]);
        }
        x.show(1, 0, 0);
        for (int what = 0; what < 4; what++) {
            due("both MAPS: area(0, 32, " + what + ")", x.area(0, 32, what), both[what]);
            due("without the other: area(0, 2, " + what + ")", x.area(0, 2, what), own[what]);
            due("without its own: area(0, 1, " + what + ")", x.area(0, 1, what), other[what]);
        }
    }

    // ---- promises 14 to 16

    private static void mayCounts() {
        by("Promise 14", "SETS that MAY LIE for a BAND: i = NONE how many");
        due("no MARKS", new SixMaps().may(0, NONE), 1);
        due("no lies", told(NINE).may(5, NONE), 1);
        due("one lie", told(NINE + "lie 0 0 50 50;").may(5, NONE), 6);
        due("two lies", told(NINE + "lie 0 0 50 50;lie 1 0 50 50;").may(5, NONE), 15);
        by("Terms 2", "MAY LIE: SETS of as many MAPS as there are LIARS, for what a BAND KNOWS.");
        setsAre("no lies", told(NINE), 5, 0);
        setsAre("one lie", told(NINE + "lie 0 0 50 50;"), 5, 1, 2, 4, 8, 16, 32);
        setsAre("two lies", told(NINE + "lie 0 0 50 50;lie 1 0 50 50;"), 5, 3, 5, 6, 9, 10, 12, 17, 18, 20, 24, 33, 34, 36, 40, 48);
    }

    private static void mayIndex() {
        by("Promise 14", "else the i-th by rising numbers; NONE: not so many. UNKNOWN.");
        String[] texts = {"mark 1 1;", "mark 1 1;lie 0 0 5 5;", "mark 1 1;lie 0 0 5 5;lie 5 0 6 6;"};
        int[] counts = {1, 6, 15};
        int[] lasts = {0, 32, 48};
        for (int i = 0; i < 3; i++) {
            SixMaps x = told(texts[i]);
            due("the last", x.may(3, counts[i] - 1), lasts[i]);
            for (int beyond : new int[] {counts[i], counts[i] + 1, MOST, -2, LEAST}) {
                due("may(3, " + beyond + ")", x.may(3, beyond), NONE);
            }
            for (int b : NO_BANDS) {
                due("may(" + b + ", NONE)", x.may(b, NONE), UNKNOWN);
                due("may(" + b + ", 0)", x.may(b, 0), UNKNOWN);
                due("may(" + b + ", 99)", x.may(b, 99), UNKNOWN);
            }
        }
    }

    private static void sureAndClear() {
        by("Terms 2", "SURE: MAPS that are in all SETS that MAY LIE; CLEAR: in none.");
        SixMaps none = told("mark 1 1;");
        due("no lies: sure(0, 0)", none.sure(0, 0), 0);
        due("no lies: sure(0, 1)", none.sure(0, 1), 63);
        SixMaps two = told("mark 1 1;lie 0 0 5 5;lie 5 0 6 6;");
        due("all SETS: sure(0, 0)", two.sure(0, 0), 0);
        due("all SETS: sure(0, 1)", two.sure(0, 1), 0);
        for (int b = 1; b < 4; b++) {
            two.show(b, 0, 0);
        }
        due("one is found: sure(0, 0)", two.sure(0, 0), 1);
        due("one is found: sure(0, 1)", two.sure(0, 1), 2 + 4 + 8);
        two.show(5, 0, 0);
        due("both are found: sure(0, 0)", two.sure(0, 0), 33);
        due("both are found: sure(0, 1)", two.sure(0, 1), 30);
        // The highest MAP as the lowest one.
        SixMaps one = told("mark 1 1;lie 5 0 5 5;");
        one.show(1, 0, 0);
        one.show(5, 0, 0);
        due("one liar: sure(0, 0)", one.sure(0, 0), 32);
        due("one liar: sure(0, 1)", one.sure(0, 1), 31);
    }

    private static void sureBounds() {
        by("Promise 15", "what = 0 SURE, 1 CLEAR (SETS of MAPS; NONE without SETS that MAY LIE). UNKNOWN, OUTSIDE.");
        SixMaps x = told("mark 1 1;lie 0 0 5 5;");
        for (int what : new int[] {-1, 2, LEAST, MOST}) {
            due("sure(0, " + what + ")", x.sure(0, what), OUTSIDE);
        }
        for (int b : NO_BANDS) {
            due("sure(" + b + ", 0)", x.sure(b, 0), UNKNOWN);
            due("sure(" + b + ", 2)", x.sure(b, 2), UNKNOWN);
        }
        SixMaps none = new SixMaps();
        due("no MARKS: sure(5, 0)", none.sure(5, 0), 0);
        due("no MARKS: sure(5, 1)", none.sure(5, 1), 63);
        due("no MARKS: sure(5, 2)", none.sure(5, 2), OUTSIDE);
    }

    private static void areaBounds() {
        by("Promise 16", "AREA for a BAND by a SET of MAPS (0 .. 63): as leads().");
        SixMaps none = told(THREE);
        int[] ends = {15, 15, 10, 10};
        for (int what = 0; what < 4; what++) {
            due("area(0, 0, " + what + ")", none.area(0, 0, what), ends[what]);
        }
        due("area(0, 63, 0)", none.area(0, 63, 0), NOT);
        SixMaps two = told(THREE + "lie 4 0 50 50;lie 5 0 60 60;");
        due("area(0, 48, 0), the greatest SET", two.area(0, 48, 0), 15);
        due("area(0, 3, 0), the least SET", two.area(0, 3, 0), -99);
        for (int set : new int[] {-1, 64, LEAST, MOST}) {
            due("area(0, " + set + ", 0)", two.area(0, set, 0), OUTSIDE);
        }
        for (int what : new int[] {-1, 4, LEAST, MOST}) {
            due("area(0, 48, " + what + ")", two.area(0, 48, what), OUTSIDE);
        }
        for (int b : NO_BANDS) {
            due("area(" + b + ", 48, 0)", two.area(b, 48, 0), UNKNOWN);
            due("area(" + b + ", 64, 4)", two.area(b, 64, 4), UNKNOWN);
        }
    }

    private static void areaNot() {
        by("Promise 16", "UNKNOWN (BAND), OUTSIDE (what, the SET), NOT: it MAY not LIE.");
        SixMaps x = told(THREE + "lie 4 0 50 50;lie 5 0 60 60;");
        for (int set = 0; set < 64; set++) {
            int answer = x.area(0, set, 0);
            boolean isPair = Integer.bitCount(set) == 2;
            due("area(0, " + set + ", 0)", answer == NOT ? 1 : 0, isPair ? 0 : 1);
        }
        due("area(0, 64, 0), no SET", x.area(0, 64, 0), OUTSIDE);
        due("area(0, 63, 4), no end and no pair", x.area(0, 63, 4), OUTSIDE);
        x.show(4, 0, 0);
        due("area(0, 3, 0) with MAP 0", x.area(0, 3, 0), 50 + 0 - 99);
        due("area(0, 6, 0), it MAY not LIE any more", x.area(0, 6, 0), NOT);
        SixMaps none = new SixMaps();
        due("no MARKS: area(0, 0, 0)", none.area(0, 0, 0), NOT);
        due("no MARKS: area(0, 64, 0)", none.area(0, 64, 0), OUTSIDE);
        due("no MARKS: area(0, 0, 4)", none.area(0, 0, 4), OUTSIDE);
        due("no MARKS: area(6, 64, 4)", none.area(6, 64, 4), UNKNOWN);
    }
}
