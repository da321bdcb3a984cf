import java.util.Random;

/** The edges of what is best: the first part of 'Terms' 3 and promises 17 to 21. */
public final class BestEdgeTests extends Edge {
    private BestEdgeTests() {
    }

    public static void main(String[] args) {
        ofMostSets();
        likePlaces();
        noPlace();
        worth();
        bestBounds();
        cornerAtTheWorst();
        cornerTried();
        cornerWithE();
        cornerOfAllPlaces();
        cornerBounds();
        cornerNot();
        bestCornerFewest();
        bestCornerLikeOnes();
        bestCornerOfAll();
        bestCornerNone();
        bestCornerBounds();
        neverWithoutSets();
        fewestSpades();
        unlikePlaces();
        noSpades();
        spadesBounds();
        foundAtOnce();
        foundByTheLast();
        foundNever();
        foundFromItsOwnMap();
        foundByRisingMaps();
        foundOneAfterTheOther();
        foundBounds();
        Check.spokenOf("Terms 3");
        Check.spokenOfPromises(17, 21);
        Check.end();
    }

    private static void bestIs(String when, SixMaps x, int b, int... answers) {
        for (int what = 0; what < 4; what++) {
            due(when + ": best(" + b + ", " + what + ")", x.best(b, what), answers[what]);
        }
    }

    private static void bestCornerIs(String when, SixMaps x, int b, int... answers) {
        for (int what = 0; what < 3; what++) {
            due(when + ": bestCorner(" + b + ", " + what + ")", x.bestCorner(b, what), answers[what]);
        }
    }

    // ---- to dig

    private static void ofMostSets() {
        by("Terms 3", "TO DIG: the PLACE (of those that are the whole AREA of some SET that MAY LIE) which is so of most SETS");
        // MAP 0 has it at 3 3, MAPS 2 and 3 at 50 50: one of 2 and 3 may lie beside MAP 0 nowhere, so three SETS lead to 50 50, one to 3 3.
        SixMaps x = told("mark 50 50;lie 0 0 3 3;lie 1 0 4 4;");
        x.show(2, 0, 0);
        x.show(3, 0, 0);
        bestIs("most, not least X", x, 0, 50, 50, 3, 100 * 3 / 4 - 10);
        // A SET whose AREA is more than one PLACE is none of these, yet one of all.
        SixMaps one = told("mark 50 50;lie 0 0 3 3;");
        bestIs("five of six", one, 5, 50, 50, 5, 100 * 5 / 6 - 10);
        SixMaps none = told("mark 50 50;");
        bestIs("one of one", none, 5, 50, 50, 1, 90);
    }

    private static void likePlaces() {
        by("Terms 3", "of like ones the least X, then the least Y; NONE.");
        // Four SETS lead to where MAP 0 has it, four to where MAP 2 does; by rising SETS those of MAP 2 come first.
        int[][] cases = {{60, 10, 50, 50}, {40, 90, 40, 90}, {50, 60, 50, 50}, {50, 40, 50, 40}, {51, 49, 50, 50}, {49, 51, 49, 51}};
        for (int[] c : cases) {
            SixMaps x = told("mark 50 50;lie 0 0 " + c[0] + " " + c[1] + ";lie 1 0 99 99;");
            x.show(2, 0, 0);
            bestIs("MAP 0 at " + c[0] + " " + c[1], x, 0, c[2], c[3], 4, 100 * 4 / 9 - 10);
        }
        // Three of like: the least of all.
        SixMaps three = told("mark 50 50;lie 0 0 60 10;lie 1 0 40 90;");
        three.show(1, 0, 0);
        three.show(2, 0, 0);
        bestIs("three of like", three, 0, 40, 90, 1, 100 / 3 - 10);
    }

    private static void noPlace() {
        by("Promise 17", "TO DIG: what = 0 X, 1 Y, 2 of how many SETS it is so, 3 WORTH; NONE (of all).");
        bestIs("no MARKS", new SixMaps(), 0, NONE, NONE, NONE, NONE);
        bestIs("within 1", told("within 1;mark 50 50;"), 0, NONE, NONE, NONE, NONE);
        // One PLACE in X, not in Y; then the other way round.
        for (String err : new String[] {"err 1 0 10 9;err 2 0 8 9;", "err 1 0 9 10;err 2 0 9 8;"}) {
            SixMaps x = told("within 1;mark 50 50;" + err);
            x.show(1, 0, 0);
            x.show(2, 0, 0);
            bestIs("one row of PLACES", x, 0, NONE, NONE, NONE, NONE);
        }
        SixMaps both = told("within 1;mark 50 50;err 1 0 10 10;err 2 0 8 8;");
        both.show(1, 0, 0);
        both.show(2, 0, 0);
        bestIs("one PLACE", both, 0, 50, 50, 1, 90);
        // For a BAND that has one, then for one that has none.
        due("one PLACE: best(0, 0)", both.best(0, 0), 50);
        bestIs("none beside it", both, 3, NONE, NONE, NONE, NONE);
        // A PLACE below 0 is one, too; -1 alone tells nothing.
        bestIs("below 0", told("mark 0 0;mark 1 1;goal 0 0 1;spade 100;"), 0, -1, -1, 1, 0);
    }

    private static void worth() {
        by("Terms 3", "WORTH of a spade there: V times how many SETS / all that MAY LIE, less its price (cut).");
        String mark = "mark 50 50;lie 0 0 60 10;lie 1 0 99 99;";
        int[][] cases = {{0, 0, 0}, {1, 0, 0}, {2, 0, 0}, {3, 0, 1}, {9, 0, 4}, {9999, 0, 4444}, {9998, 0, 4443},
            {1, 999, -999}, {2, 1, -1}, {9999, 999, 3445}, {0, 999, -999}};
        for (int[] c : cases) {
            SixMaps x = told(mark + "prize " + c[0] + ";spade " + c[1] + ";");
            x.show(2, 0, 0);
            due("four of nine, V " + c[0] + ", price " + c[1], x.best(0, 3), c[2]);
        }
        due("all, V 9999 for nothing", told("mark 5 5;prize 9999;spade 0;").best(0, 3), 9999);
        due("all, V 0", told("mark 5 5;prize 0;spade 999;").best(0, 3), -999);
        // Ten of fifteen: V times SETS first, then cut.
        due("ten of fifteen", told(mark + "prize 9999;spade 0;").best(2, 3), 6666);
        due("ten of fifteen, V 1", told(mark + "prize 1;spade 0;").best(2, 3), 0);
        by("Terms", "All numbers are whole; / cuts towards 0.");
        // What is divided is cut, not what is left when the price is paid: two thirds less 1 is -1, not 0.
        due("ten of fifteen, V 1, price 1", told(mark + "prize 1;spade 1;").best(2, 3), -1);
        due("ten of fifteen, V 2, price 1", told(mark + "prize 2;spade 1;").best(2, 3), 0);
        due("ten of fifteen, V 2, price 2", told(mark + "prize 2;spade 2;").best(2, 3), -1);
        due("ten of fifteen, V 4, price 9", told(mark + "prize 4;spade 9;").best(2, 3), -7);
    }

    private static void bestBounds() {
        by("Promise 17", "UNKNOWN, OUTSIDE.");
        SixMaps x = told("mark 50 50;");
        for (SixMaps maps : new SixMaps[] {x, new SixMaps()}) {
            for (int what : new int[] {-1, 4, LEAST, MOST}) {
                due("best(0, " + what + ")", maps.best(0, what), OUTSIDE);
            }
            for (int b : NO_BANDS) {
                due("best(" + b + ", 0)", maps.best(b, 0), UNKNOWN);
                due("best(" + b + ", 4)", maps.best(b, 4), UNKNOWN);
            }
        }
        due("best(5, 0)", x.best(5, 0), 50);
    }

    // ---- corners

    private static void cornerAtTheWorst() {
        by("Terms 3", "A CORNER: MARK k of BAND c shown to BAND b: at the worst, over what it may show, how many SETS MAY LIE for b then");
        // One MARK, one liar: as its own MAP has it neither of both lies and four may; far off it is one of both.
        SixMaps one = told("mark 50 50;lie 3 0 52 50;");
        due("as its own MAP: corner(0, 1, 0)", one.corner(0, 1, 0), 4);
        due("may(0, NONE), nothing was shown", one.may(0, NONE), 6);
        due("knows(0, 1), nothing was shown", one.knows(0, 1), 0);
        // Two liars: as its own MAP has it seven may; far off nine.
        SixMaps two = told("mark 50 50;lie 3 0 52 50;lie 4 0 53 50;");
        due("far off: corner(0, 1, 0)", two.corner(0, 1, 0), 9);
        due("no lies: corner(0, 1, 0)", told("mark 50 50;").corner(0, 1, 0), 1);
        due("nine MARKS: corner(0, 5, 8)", told(NINE + "lie 0 0 50 50;lie 1 0 50 50;").corner(0, 5, 8), 15);
    }

    private static void cornerTried() {
        by("Terms 3", "(Tried are: where MARK k is on each MAP of which b KNOWS it, and one that is far from all: X and Y 2000.)");
        // BAND 0 lies, MAPS 1 and 2 tell so: only a corner as theirs leaves a SET.
        SixMaps other = told("mark 50 50;lie 0 0 52 50;");
        other.show(2, 0, 0);
        other.show(1, 0, 0);
        due("as another MAP: corner(0, 3, 0)", other.corner(0, 3, 0), 1);
        for (String lie : new String[] {"50 52", "50 48", "48 50"}) {
            SixMaps x = told("mark 50 50;lie 0 0 " + lie + ";");
            x.show(2, 0, 0);
            x.show(1, 0, 0);
            due("as another MAP, " + lie + ": corner(0, 3, 0)", x.corner(0, 3, 0), 1);
        }
        // Other MARKS are just where MAP 0 has this one: they are none of what is tried.
        String here = "mark 52 50;";
        for (int k = 0; k < 9; k++) {
            SixMaps x = told(here.repeat(k) + "mark 50 50;" + here.repeat(8 - k) + "lie 0 " + k + " 52 50;");
            x.show(2, 0, k);
            x.show(1, 0, k);
            due("among nine: corner(0, 3, " + k + ")", x.corner(0, 3, k), 1);
            due("among nine: corner(0, 5, " + k + ")", x.corner(0, 5, k), 1);
        }
        // MAP 5 is the only one that was not shown, so it lies: only a corner far off leaves that.
        SixMaps far = told("mark 50 50;lie 5 0 51 50;");
        for (int a = 1; a < 5; a++) {
            far.show(a, 0, 0);
        }
        due("far off: corner(0, 5, 0)", far.corner(0, 5, 0), 1);
        // Sides of X and of Y are told apart: MAP 3 as MAP 1, which lies in Y alone.
        SixMaps y = told("mark 50 50;lie 1 0 50 52;lie 2 0 52 50;");
        y.show(1, 0, 0);
        y.show(2, 0, 0);
        due("three apart: may(0, NONE)", y.may(0, NONE), 3);
        due("three apart: corner(0, 3, 0)", y.corner(0, 3, 0), 1);
    }

    private static void cornerWithE() {
        by("Terms 3", "where MARK k is on each MAP of which b KNOWS it");
        // The BOXES of MAPS 0 (55), 5 (52) and 2 (50): tried are 55: four, 52: five, 50: four, far off: two.
        SixMaps x = told("within 2;mark 50 50;lie 0 0 55 50;lie 1 0 56 50;err 4 0 7 9;err 5 0 11 9;");
        x.show(5, 0, 0);
        x.show(2, 0, 0);
        due("may(0, NONE)", x.may(0, NONE), 9);
        due("corner(0, 1, 0)", x.corner(0, 1, 0), 5);
        due("corner(0, 3, 0)", x.corner(0, 3, 0), 5);
        // Where MAP 2 has it all six might lie, but that is not KNOWN, not for its own corner either.
        SixMaps y = told("within 2;mark 50 50;lie 5 0 90 90;err 2 0 11 9;");
        due("corner(0, 1, 0), MAP 2 is not KNOWN", y.corner(0, 1, 0), 4);
        due("corner(0, 2, 0), MAP 2 is not KNOWN", y.corner(0, 2, 0), 4);
        y.show(2, 0, 0);
        due("may(0, NONE), MAP 2 is KNOWN", y.may(0, NONE), 6);
        due("corner(0, 1, 0), MAP 2 is KNOWN", y.corner(0, 1, 0), 4);
    }

    /** All places are left, so a BOX far off has some of them: it is a QUARREL, but not OFF. A choice: NOTES.md. */
    private static void cornerOfAllPlaces() {
        by("Terms 2", "(all places, if none of these is KNOWN)");
        SixMaps x = told("mark 50 50;mark 20 20;lie 0 0 60 60;lie 2 1 30 30;");
        x.show(2, 0, 1);
        x.dig(3, 60, 60);
        // As MAP 0 has it, all but the SET of 0 and 1 lead to the SPADE; far off that of 0 and 2 is left beside it.
        due("corner(0, 1, 0)", x.corner(0, 1, 0), 2);
        due("corner(0, 2, 0)", x.corner(0, 2, 0), 1);
        due("bestCorner(0, 0)", x.bestCorner(0, 0), 2);
        due("bestCorner(0, 2)", x.bestCorner(0, 2), 1);
    }

    private static void cornerBounds() {
        by("Promise 18", "A CORNER: how many SETS are left at the worst. UNKNOWN (one twice)");
        SixMaps x = told(NINE + "lie 0 0 50 50;");
        due("corner(0, 5, 8)", x.corner(0, 5, 8), 6);
        due("corner(5, 0, 0)", x.corner(5, 0, 0), 6);
        for (int b = 0; b < 6; b++) {
            due("corner(" + b + ", " + b + ", 0), one twice", x.corner(b, b, 0), UNKNOWN);
        }
        for (int b : NO_BANDS) {
            due("corner(" + b + ", 0, 0)", x.corner(b, 0, 0), UNKNOWN);
            due("corner(0, " + b + ", 0)", x.corner(0, b, 0), UNKNOWN);
        }
        for (int k : new int[] {-1, 9, 32, LEAST, MOST}) {
            due("corner(0, 5, " + k + ")", x.corner(0, 5, k), UNKNOWN);
        }
        due("no MARKS: corner(0, 5, 0)", new SixMaps().corner(0, 5, 0), UNKNOWN);
    }

    private static void cornerNot() {
        by("Promise 18", "NOT: it KNOWS it; no SET MAY LIE.");
        SixMaps x = told(NINE + "lie 0 0 50 50;");
        x.show(5, 0, 8);
        due("corner(0, 5, 8), it KNOWS it", x.corner(0, 5, 8), NOT);
        due("corner(0, 5, 7), it does not", x.corner(0, 5, 7), 6);
        due("corner(5, 0, 8), who showed does not", x.corner(5, 0, 8), 6);
        due("corner(5, 5, 8), its own, one twice", x.corner(5, 5, 8), UNKNOWN);
    }

    private static void bestCornerFewest() {
        by("Terms 3", "BEST CORNER of a BAND: by which at the worst the fewest are left");
        // MAP 4 lies at MARK 2 and was shown there: another one at that MARK tells most.
        SixMaps x = told("mark 1 1;mark 2 2;mark 3 3;lie 4 2 50 50;lie 5 0 60 60;");
        x.show(4, 0, 2);
        bestCornerIs("one is apart", x, 0, 1, 2, 6);
        x.show(1, 0, 2);
        x.show(2, 0, 2);
        x.show(3, 0, 2);
        due("may(0, NONE)", x.may(0, NONE), 5);
        due("corner(0, 5, 2), the last one at that MARK", x.corner(0, 5, 2), 5);
    }

    private static void bestCornerLikeOnes() {
        by("Terms 3", "of like ones the least BAND, then the least MARK (of such as it does not KNOW); NONE.");
        SixMaps x = told(NINE + "lie 4 2 50 50;");
        for (int b = 0; b < 6; b++) {
            bestCornerIs("nothing shown", x, b, b == 0 ? 1 : 0, 0, 6);
        }
        for (int k = 0; k < 8; k++) {
            x.show(1, 0, k);
            bestCornerIs("MARK " + k + " is KNOWN", x, 0, 1, k + 1, k < 7 ? 6 : 4);
        }
        // What it does not KNOW, not what others do not.
        bestCornerIs("of another BAND", x, 1, 0, 0, 6);
    }

    /** Whatever corners are worth: the best one is the first of the fewest. */
    private static void bestCornerOfAll() {
        by("Promise 19", "BEST CORNER: what = 0 the BAND, 1 the MARK, 2 how many SETS are left; NONE.");
        SixMaps x = told("within 1;mark 50 50;mark 20 20;mark 70 10;lie 2 0 53 50;lie 1 1 23 20;err 0 1 8 9;err 4 1 8 9;err 5 2 10 8;");
        int[][] shows = {{2, 0, 0}, {4, 0, 1}, {2, 0, 1}, {5, 0, 2}, {3, 0, 0}, {1, 0, 1}, {5, 0, 0}};
        for (int[] s : shows) {
            x.show(s[0], s[1], s[2]);
            int[] best = {NONE, NONE, MOST};
            for (int c = 1; c < 6; c++) {
                for (int k = 0; k < 3; k++) {
                    int left = x.corner(0, c, k);
                    if (left >= 0 && left < best[2]) {
                        best = new int[] {c, k, left};
                    }
                }
            }
            bestCornerIs("behind show(" + s[0] + ", 0, " + s[2] + ")", x, 0, best);
        }
    }

    private static void bestCornerNone() {
        by("Promise 19", "2 how many SETS are left; NONE.");
        bestCornerIs("no MARKS", new SixMaps(), 0, NONE, NONE, NONE);
        SixMaps x = told("mark 1 1;mark 2 2;lie 0 0 50 50;");
        for (int a = 0; a < 5; a++) {
            showAll(x, a, 5);
        }
        bestCornerIs("all KNOWN", x, 5, NONE, NONE, NONE);
        SixMaps y = told("mark 1 1;mark 2 2;lie 0 0 50 50;");
        for (int a = 0; a < 4; a++) {
            showAll(y, a, 5);
        }
        y.show(4, 5, 0);
        bestCornerIs("the last one", y, 5, 4, 1, 1);
    }

    private static void bestCornerBounds() {
        by("Promise 19", "UNKNOWN, OUTSIDE.");
        for (SixMaps x : new SixMaps[] {told("mark 1 1;"), new SixMaps()}) {
            for (int what : new int[] {-1, 3, LEAST, MOST}) {
                due("bestCorner(0, " + what + ")", x.bestCorner(0, what), OUTSIDE);
            }
            for (int b : NO_BANDS) {
                due("bestCorner(" + b + ", 0)", x.bestCorner(b, 0), UNKNOWN);
                due("bestCorner(" + b + ", 3)", x.bestCorner(b, 3), UNKNOWN);
            }
        }
    }

    /** The SET of the lies that were told always MAY LIE, and something that is tried leaves it. */
    private static void neverWithoutSets() {
        by("Terms 3", "(0, if none does by any)");
        String[] texts = {"mark 50 50;mark 20 20;lie 1 0 52 50;lie 4 0 51 50;", "mark 50 50;lie 3 0 51 51;",
            "within 2;mark 50 50;mark 20 20;lie 0 0 55 50;lie 1 1 20 25;err 4 0 7 11;err 5 0 11 7;err 2 1 8 8;",
            "within 1;mark 50 50;mark 20 20;lie 5 1 23 20;err 0 0 8 10;err 1 0 10 8;err 2 1 8 8;err 3 1 10 10;"};
        Random random = new Random(29);
        for (int turn = 0; turn < 40; turn++) {
            SixMaps x = told(texts[turn % 4]);
            for (int i = 0; i < 50; i++) {
                int b = random.nextInt(6);
                int c = (b + 1 + random.nextInt(5)) % 6;
                int k = random.nextInt(x.told(0));
                int left = x.corner(b, c, k);
                Check.holds("corner(" + b + ", " + c + ", " + k + ") = " + left, left > 0 || left == NOT);
                x.show(c, b, k);
                Check.holds("a SET MAY LIE for BAND " + b, x.may(b, NONE) > 0);
                x.dig(b, Math.max(0, x.best(b, 0)), Math.max(0, x.best(b, 1)));
            }
        }
    }

    // ---- fewest spades

    private static void fewestSpades() {
        by("Terms 3", "FEWEST SPADES: if the AREA of each SET that MAY LIE is one PLACE: how many unlike such PLACES there are");
        due("one SET", told("mark 4 4;").spades(0), 1);
        SixMaps four = told("mark 50 50;lie 5 0 60 60;");
        due("one of six SETS is no PLACE", four.spades(0), NONE);
        four.show(1, 0, 0);
        due("four SETS, one PLACE", four.spades(0), 1);
        SixMaps two = told("mark 50 50;lie 5 0 60 60;");
        two.show(5, 0, 0);
        due("two SETS, two PLACES", two.spades(0), 2);
        two.dig(3, 60, 60);
        due("one is dug", two.spades(0), 1);
        SixMaps three = told("mark 50 50;lie 0 0 60 10;lie 1 0 40 90;");
        three.show(1, 0, 0);
        three.show(2, 0, 0);
        due("three SETS, three PLACES", three.spades(0), 3);
    }

    private static void unlikePlaces() {
        by("Terms 3", "how many unlike such PLACES there are");
        for (String lie : new String[] {"50 51", "51 50", "51 51", "49 51"}) {
            SixMaps x = told("mark 50 50;lie 0 0 " + lie + ";");
            x.show(1, 0, 0);
            due("50 50 and " + lie, x.spades(0), 2);
        }
        // A lie at a MARK that leads nowhere: two SETS, one PLACE.
        SixMaps x = told("mark 50 50;mark 20 20;lie 0 1 30 30;");
        showAll(x, 1, 0);
        due("may(0, NONE)", x.may(0, NONE), 2);
        due("the same PLACE twice", x.spades(0), 1);
    }

    private static void noSpades() {
        by("Terms 3", "NONE: some SET does not, or no SET.");
        due("no MARKS", new SixMaps().spades(0), NONE);
        due("all but one SET", told("mark 50 50;lie 5 0 60 60;").spades(5), NONE);
        for (String err : new String[] {"err 1 0 10 9;err 2 0 8 9;", "err 1 0 9 10;err 2 0 9 8;"}) {
            SixMaps x = told("within 1;mark 50 50;" + err);
            x.show(1, 0, 0);
            x.show(2, 0, 0);
            due("one row of PLACES", x.spades(0), NONE);
        }
        SixMaps one = told("within 1;mark 50 50;err 1 0 10 10;err 2 0 8 8;");
        one.show(1, 0, 0);
        one.show(2, 0, 0);
        due("one PLACE", one.spades(0), 1);
    }

    private static void spadesBounds() {
        by("Promise 20", "FEWEST SPADES for a BAND; NONE. UNKNOWN.");
        SixMaps x = told("mark 4 4;");
        due("spades(5)", x.spades(5), 1);
        for (int b : NO_BANDS) {
            due("spades(" + b + ")", x.spades(b), UNKNOWN);
            due("no MARKS: spades(" + b + ")", new SixMaps().spades(b), UNKNOWN);
        }
    }

    // ---- found

    private static void foundAtOnce() {
        by("Terms 3", "till just one SET MAY LIE for it");
        due("no MARKS", new SixMaps().found(0), 0);
        due("no lies", told(NINE).found(5), 0);
        // Far apart at the first MARK, BAND 1 is shown MAP 0, then MAP 2.
        due("two corners", told("mark 50 50;lie 0 0 60 60;").found(1), 2);
        due("one liar, four corners", told("mark 50 50;lie 5 0 60 60;").found(0), 4);
    }

    private static void foundByTheLast() {
        by("Terms 3", "FOUND: how many corners");
        // BAND 5 is at the side of the others' BOXES: it or MAP 4 lies, until that was shown as the last one.
        due("the last of five", told("within 2;mark 50 50;lie 4 0 56 50;err 5 0 7 9;").found(5), 5);
        // Nine MARKS: MAPS 0 to 3 are shown in full, and MAP 4 at all but the last MARK tells nothing yet.
        String nine = "within 2;mark 50 50;mark 1 1;mark 2 2;mark 3 3;mark 4 4;mark 5 5;mark 6 6;mark 7 7;mark 90 50;lie 4 8 96 50;err 5 8 7 9;";
        due("the last of 45", told(nine).found(5), 45);
    }

    private static void foundNever() {
        by("Terms 3", "NONE: never.");
        // MAPS 0 to 3 share 53 with MAP 4, and 50 to 52 with MAP 5: with all shown either may lie.
        SixMaps x = told("within 2;mark 50 50;lie 4 0 55 50;err 2 0 10 9;err 0 0 11 9;err 1 0 10 9;err 3 0 11 9;");
        for (int b = 0; b < 6; b++) {
            due("found(" + b + ")", x.found(b), NONE);
        }
    }

    private static void foundFromItsOwnMap() {
        by("Terms 3", "(from its own MAP alone, no SPADES)");
        SixMaps x = told("mark 50 50;lie 5 0 60 60;");
        due("found(0)", x.found(0), 4);
        showAll(x, 5, 0);
        due("found(0), one is KNOWN", x.found(0), 4);
        x.dig(0, 60, 60);
        due("may(0, NONE), by a SPADE", x.may(0, NONE), 1);
        due("found(0), a SPADE", x.found(0), 4);
        due("found(5), a SPADE", x.found(5), 2);
        due("knows(0, 1), nothing was shown", x.knows(0, 1), 0);
        due("may(0, NONE), as it was", x.may(0, NONE), 1);
    }

    private static void foundByRisingMaps() {
        by("Terms 3", "(of MARKS of others' MAPS, by rising MAPS, then MARKS)");
        // For BAND 5 MAP 0 is apart at the second MARK, and MAP 1 tells at its second one who of both lies.
        due("a liar ahead", told("mark 1 1;mark 2 2;lie 0 1 50 50;").found(5), 4);
        due("a liar ahead, at the first MARK", told("mark 1 1;mark 2 2;lie 0 0 50 50;").found(5), 3);
        // For BAND 0 its own MAP is passed over: the first corner is MAP 1's.
        due("the first BAND lies", told("mark 1 1;mark 2 2;lie 0 0 50 50;").found(0), 3);
        due("the first BAND lies at its second MARK", told("mark 1 1;mark 2 2;lie 0 1 50 50;").found(0), 4);
    }

    private static void foundOneAfterTheOther() {
        by("Terms 3", "MAKERS: with lies as told, E, all MARKS: FOUND: how many corners (of MARKS of others' MAPS, by rising MAPS, then MARKS) "
                + "a BAND must be shown, one after the other, till just one SET MAY LIE for it");
        String[] texts = {"mark 50 50;", "mark 50 50;lie 3 0 60 60;", "mark 50 50;lie 0 0 60 60;lie 5 0 60 60;",
            "mark 50 50;mark 20 20;lie 1 0 51 50;lie 4 1 20 21;", "mark 50 50;mark 20 20;mark 30 30;lie 2 2 33 30;lie 3 2 30 33;",
            "within 1;mark 50 50;mark 20 20;lie 1 0 53 50;lie 4 1 20 23;err 0 0 10 9;err 2 1 8 8;err 5 1 10 10;",
            "within 3;mark 50 50;mark 20 20;lie 0 0 57 50;err 1 0 12 9;err 2 0 10 6;err 3 0 6 9;err 4 0 12 12;",
            "within 2;mark 50 50;lie 4 0 55 50;err 2 0 10 9;err 0 0 11 9;err 1 0 10 9;err 3 0 11 9;",
            "within 9;mark 50 50;mark 20 20;lie 0 0 69 50;lie 1 1 20 39;err 2 0 18 9;err 3 0 0 9;err 5 1 9 18;"};
        for (String text : texts) {
            for (int b = 0; b < 6; b++) {
                SixMaps x = told(text);
                due(text + " found(" + b + ")", x.found(b), cornersTillOneSet(x, b));
            }
        }
    }

    /** By showing them. */
    private static int cornersTillOneSet(SixMaps x, int b) {
        int corners = 0;
        int marks = x.told(0);
        for (int m = 0; m < 6; m++) {
            for (int k = 0; m != b && k < marks; k++) {
                if (x.may(b, NONE) == 1) {
                    return corners;
                }
                x.show(m, b, k);
                corners++;
            }
        }
        return x.may(b, NONE) == 1 ? corners : NONE;
    }

    private static void foundBounds() {
        by("Promise 21", "FOUND by a BAND; NONE. UNKNOWN.");
        for (SixMaps x : new SixMaps[] {told("mark 4 4;"), new SixMaps()}) {
            due("found(0)", x.found(0), 0);
            due("found(5)", x.found(5), 0);
            for (int b : NO_BANDS) {
                due("found(" + b + ")", x.found(b), UNKNOWN);
            }
        }
    }
}
