import java.util.List;
import java.util.function.Consumer;

/** The edges of the text and of promises 1 to 5; in a text with a FAULT the sign '^' stands where it is told. */
public final class TextEdgeTests extends Edge {
    private TextEdgeTests() {
    }

    public static void main(String[] args) {
        aNewObject();
        feedOfOneToEight();
        feedHighestFirst();
        feedUpTo400();
        textOf400();
        nothingIsTold();
        marks();
        goals();
        whatIsSought();
        withins();
        lies();
        farther();
        errs();
        errsWithinE();
        prices();
        prizes();
        behindAllMarks();
        behindWithin();
        aMapsMarkOnce();
        figures();
        lettersAndBlanks();
        needABlank();
        theFirstByte();
        theEnd();
        theLeast();
        faultsOfKind1();
        faultsOfKind2();
        faultsOfKind3();
        faultsOfKind4();
        liarsAsLies();
        mapsAreBands();
        theTextIsEmptyThen();
        allIsNew();
        untoldIsUntold();
        allIsAsItWas();
        theLatestFault();
        toldAll();
        Check.spokenOf("Terms 1");
        Check.spokenOfPromises(1, 5);
        Check.end();
    }

    private static SixMaps fine(String text, int marks) {
        return Check.fine(text, marks);
    }

    private static void fault(String marked, int number) {
        Check.fault(marked, number);
    }

    private static String blanks(int n) {
        return " ".repeat(n);
    }

    private static void toldIs(SixMaps x, int... answers) {
        for (int what = 0; what < answers.length; what++) {
            due("told(" + what + ")", x.told(what), answers[what]);
        }
    }

    // ---- promises 1, 2

    private static void aNewObject() {
        by("Promise 1", "No MARKS.");
        SixMaps x = new SixMaps();
        toldIs(x, 0, 0, 0, 0, 0, 0, 10, 100, 0, 0, 0, NONE);
        due("fault()", x.fault(), NONE);
        for (int b = 0; b < 6; b++) {
            due("knows(" + b + ", " + b + ")", x.knows(b, b), 0);
            due("purse(" + b + ")", x.purse(b), 0);
        }
        due("seed(0)", x.seed(0), 0);
        due("forget()", x.forget(), 0);
    }

    private static void feedOfOneToEight() {
        by("Promise 2", "Up to eight bytes (n 1 .. 8) of a long");
        for (int n = 1; n <= 8; n++) {
            SixMaps x = new SixMaps();
            due("feed(" + n + ", 0)", x.feed(n, 0), n);
            due("told(8)", x.told(8), n);
        }
        for (int n : new int[] {0, 9, -1, -8, LEAST, MOST}) {
            SixMaps x = new SixMaps();
            due("feed(" + n + ", 0)", x.feed(n, 0x3B3B3B3B3B3B3B3BL), OUTSIDE);
            due("told(8), refused", x.told(8), 0);
            due("island(), refused", x.island(), 0);
        }
    }

    private static void feedHighestFirst() {
        by("Promise 2", "the highest of these first, come behind THE TEXT: how many it has");
        // The bytes above the n-th are none of these: ';' would be a fault.
        String text = "prize 24";
        for (int n = 1; n <= 8; n++) {
            SixMaps x = new SixMaps();
            for (int i = 0; i < text.length(); i += n) {
                int m = Math.min(n, text.length() - i);
                long bytes = 0x3B3B3B3B3B3B3B3BL;
                for (int j = 0; j < m; j++) {
                    bytes = bytes << 8 | text.charAt(i + j);
                }
                due("feed by " + n, x.feed(m, bytes), i + m);
            }
            due("feed(1, ';')", x.feed(1, ';'), 9);
            due("island()", x.island(), 0);
            due("told(7)", x.told(7), 24);
        }
        // The highest bit of a byte is not lost and tells nothing of those beside it.
        SixMaps high = new SixMaps();
        due("feed(2, ' ' and 255)", high.feed(2, 0x20FFL), 2);
        due("island()", high.island(), -11);
        due("fault()", high.fault(), 1);
        SixMaps low = new SixMaps();
        due("feed(8, -1)", low.feed(8, -1L), 8);
        due("island()", low.island(), -11);
        due("fault()", low.fault(), 0);
    }

    private static void feedUpTo400() {
        by("Promise 2", "OUTSIDE, FULL (400).");
        for (int n = 1; n <= 8; n++) {
            SixMaps x = new SixMaps();
            Check.feed(x, blanks(400 - n));
            due("feed(" + n + ", blanks) up to 400", x.feed(n, 0x2020202020202020L), 400);
            due("feed(" + n + ", 0) at 400", x.feed(n, 0), FULL);
            due("feed(0, 0) at 400", x.feed(0, 0), OUTSIDE);
            due("feed(9, 0) at 400", x.feed(9, 0), OUTSIDE);
            due("told(8) at 400", x.told(8), 400);
            due("island()", x.island(), 0);
            due("feed(8, 0), there is room again", x.feed(8, 0), 8);
            // No part of what has no room comes in: a ';' would be a fault.
            SixMaps y = new SixMaps();
            Check.feed(y, blanks(401 - n));
            due("feed(" + n + ", 0), one too many", y.feed(n, 0x3B3B3B3B3B3B3B3BL), FULL);
            due("told(8), refused", y.told(8), 401 - n);
            due("island(), refused", y.island(), 0);
        }
    }

    // ---- the clauses

    private static void textOf400() {
        by("Terms 1", "THE ISLAND is told in a text (400 bytes at most): clauses:");
        SixMaps x = fine("mark 1 2;" + blanks(383) + "prize 7;", 1);
        due("told(7)", x.told(7), 7);
        fault(blanks(399) + "^;", 1);
        fault(blanks(393) + "prize 7^", 1);
        fault("mark 1 2;" + blanks(386) + "prize^", 1);
        fault("mark 1 2;" + blanks(387) + "^priz", 1);
        // One byte more has no room, so that what was to be the last clause has no end.
        SixMaps y = new SixMaps();
        Check.feed(y, blanks(393) + "prize 7");
        due("feed(1, ';')", y.feed(1, ';'), FULL);
        due("island()", y.island(), -11);
        due("fault()", y.fault(), 400);
    }

    private static void nothingIsTold() {
        by("Promise 3", "how many MARKS");
        fine("", 0);
        fine(" ", 0);
        fine(blanks(400), 0);
        fine("spade 1;", 0);
        fine("mark 1 1;", 1);
        fine(NINE, 9);
    }

    private static void marks() {
        by("Terms 1", "'mark' X Y ';' (9 MARKS at most, 0 .. 99 both: where it is)");
        SixMaps x = fine("mark 0 99;mark 99 0;", 2);
        due("mark(0, 0)", x.mark(0, 0), 0);
        due("mark(0, 1)", x.mark(0, 1), 99);
        due("mark(1, 0)", x.mark(1, 0), 99);
        due("mark(1, 1)", x.mark(1, 1), 0);
        fault("mark ^100 0;", 2);
        fault("mark 0 ^100;", 2);
        fault("mark ^9999 0;", 2);
        fault("mark 99 ^9999;", 2);
        fault("mark ^-1 0;", 1);
        SixMaps y = fine(NINE, 9);
        for (int k = 0; k < 9; k++) {
            due("mark(" + k + ", 0)", y.mark(k, 0), k + 1);
        }
        fault(NINE + "^mark 1 1;", 3);
        fault(NINE + "spade 1;^mark", 3);
    }

    private static void goals() {
        by("Terms 1", "'goal' A B C ';' (MARKS; untold 0 0 0; once");
        toldIs(fine(NINE, 9), 9, 0, 0, 0, 0, 0);
        toldIs(fine(NINE + "goal 0 8 4;", 9), 9, 0, 0, 0, 8, 4);
        toldIs(fine(NINE + "goal 8 0 8;", 9), 9, 0, 0, 8, 0, 8);
        toldIs(fine(NINE + "goal 7 8 0;", 9), 9, 0, 0, 7, 8, 0);
        toldIs(fine("mark 1 1;goal 0 0 0;", 1), 1, 0, 0, 0, 0, 0);
        fault(NINE + "goal ^9 0 0;", 2);
        fault(NINE + "goal 0 ^9 0;", 2);
        fault(NINE + "goal 0 0 ^9;", 2);
        fault("mark 1 1;goal ^1 0 0;", 2);
        fault("mark 1 1;goal 0 ^1 0;", 2);
        fault("mark 1 1;goal 0 0 ^1;", 2);
        fault("goal ^0 0 0;", 2);
        fault("mark 1 1;goal 0 0 0;^goal 0 0 0;", 3);
        // An island that does not tell it has none of the island before.
        SixMaps x = fine(NINE + "goal 8 7 6;", 9);
        Check.feed(x, NINE);
        due("island()", x.island(), 9);
        toldIs(x, 9, 0, 0, 0, 0, 0);
    }

    private static void whatIsSought() {
        by("Terms 1", "what is sought lies at A's X and B's X less C's X, likewise Y)");
        due("dig, plain", fine("mark 10 20;mark 30 50;mark 25 60;goal 0 1 2;", 3).dig(0, 15, 10), 1);
        due("dig, untold", fine("mark 10 20;mark 30 50;", 2).dig(0, 10, 20), 1);
        due("dig at 0 0", fine("mark 40 30;mark 41 31;mark 81 61;goal 0 1 2;", 3).dig(0, 0, 0), 1);
        due("dig at 99 99", fine("mark 50 60;mark 49 39;mark 0 0;goal 0 1 2;", 3).dig(0, 99, 99), 1);
        // Beyond 0 .. 99 only a hunt comes there.
        soughtBeyond("mark 0 0;mark 1 0;goal 0 0 1;", -1, 0);
        soughtBeyond("mark 0 0;mark 0 1;goal 0 0 1;", 0, -1);
        soughtBeyond("mark 0 0;mark 99 99;goal 0 0 1;", -99, -99);
        soughtBeyond("mark 50 7;mark 0 7;goal 0 0 1;", 100, 7);
        soughtBeyond("mark 99 99;mark 0 0;goal 0 0 1;", 198, 198);
    }

    private static void soughtBeyond(String text, int x, int y) {
        SixMaps maps = fine(text, 2);
        due("best(0, 0)", maps.best(0, 0), x);
        due("best(0, 1)", maps.best(0, 1), y);
        due("dig(0, " + x + ", " + y + ")", maps.dig(0, x, y), OUTSIDE);
        due("dig at the nearest", maps.dig(0, Math.max(0, Math.min(99, x)), Math.max(0, Math.min(99, y))), 0);
        SixMaps again = fine(text, 2);
        due("hunt(1)", again.hunt(1), 0);
        due("purse(0)", again.purse(0), 90);
    }

    private static void withins() {
        by("Terms 1", "'within' E ';' (0 .. 9; 0 untold; once)");
        due("told(2), untold", fine("mark 1 1;", 1).told(2), 0);
        due("told(2), least", fine("within 0;", 0).told(2), 0);
        due("told(2), most", fine("within 9;", 0).told(2), 9);
        fault("within ^10;", 2);
        fault("within ^9999;", 2);
        fault("within 9;^within 9;", 3);
        fault("within 0;^within 0;", 3);
        SixMaps x = fine("within 9;", 0);
        Check.feed(x, "mark 1 1;");
        due("island()", x.island(), 1);
        due("told(2), untold behind 9", x.told(2), 0);
    }

    private static void lies() {
        by("Terms 1", "'lie' M K X Y ';' (2 at most, of unlike MAPS M 0 .. 5: on it MARK K is at X, Y;");
        due("told(1), none", fine(NINE, 9).told(1), 0);
        due("told(1), one", fine(NINE + "lie 0 0 0 0;", 9).told(1), 1);
        SixMaps x = fine(NINE + "lie 0 0 99 0;lie 5 8 0 99;", 9);
        due("told(1), two", x.told(1), 2);
        due("map(0, 0, 0)", x.map(0, 0, 0), 99);
        due("map(0, 0, 1)", x.map(0, 0, 1), 0);
        due("map(5, 8, 0)", x.map(5, 8, 0), 0);
        due("map(5, 8, 1)", x.map(5, 8, 1), 99);
        due("map(5, 7, 0), beside", x.map(5, 7, 0), 8);
        due("map(4, 8, 0), beside", x.map(4, 8, 0), 9);
        due("mark(8, 0), where it is", x.mark(8, 0), 9);
        fault(NINE + "lie 0 0 99 0;lie 5 8 0 99;^lie 1 1 50 50;", 3);
        fault(NINE + "lie ^6 0 99 0;", 2);
        fault(NINE + "lie 0 ^9 99 0;", 2);
        fault(NINE + "lie 0 0 ^100 0;", 2);
        fault(NINE + "lie 0 0 99 ^100;", 2);
        fault("lie 0 ^0 99 0;", 2);
        fault("mark 1 1;lie 0 ^1 99 0;", 2);
        fault(NINE + "lie 3 0 99 0;lie ^3 1 99 0;", 4);
        fault(NINE + "lie 3 0 99 0;lie ^3 0 99 0;", 4);
    }

    private static void farther() {
        by("Terms 1", "farther than 2 times E from where it is, in X or in Y)");
        for (int e : new int[] {0, 1, 3, 9}) {
            String start = "within " + e + ";mark 50 50;lie 2 0 ";
            int near = 2 * e;
            int far = near + 1;
            int[][] fars = {{far, 0}, {-far, 0}, {0, far}, {0, -far}, {far, near}, {-near, -far}, {far, far}};
            for (int[] f : fars) {
                SixMaps x = fine(start + (50 + f[0]) + " " + (50 + f[1]) + ";", 1);
                due("map(2, 0, 0)", x.map(2, 0, 0), 50 + f[0]);
                due("map(2, 0, 1)", x.map(2, 0, 1), 50 + f[1]);
            }
            int[][] nears = {{near, 0}, {-near, 0}, {0, near}, {0, -near}, {near, near}, {-near, -near}, {0, 0}};
            for (int[] n : nears) {
                fault(start + (50 + n[0]) + " ^" + (50 + n[1]) + ";", 4);
            }
        }
        // X alone tells nothing, whatever numbers came ahead of it.
        fine("mark 9 9;err 1 0 9 9;lie 0 0 9 50;", 1);
        fine("mark 50 50;lie 1 0 50 60;lie 0 0 50 61;", 1);
        fine("mark 50 50;lie 1 0 60 50;lie 0 0 61 50;", 1);
        // From where it is, not from where an err on another MAP has it.
        fault("within 1;mark 50 50;err 0 0 8 8;lie 1 0 52 ^52;", 4);
    }

    private static void errs() {
        by("Terms 1", "'err' M K X Y ';' (30 at most: on MAP M MARK K is X less 9, Y less 9 off where it is;");
        StringBuilder thirty = new StringBuilder("mark1 1;mark2 2;mark3 3;mark4 4;mark5 5;mark6 6;");
        for (int i = 0; i < 30; i++) {
            thirty.append("err").append(i % 6).append(' ').append(i / 6).append(" 9 9;");
        }
        fine(thirty.toString(), 6);
        fault(thirty + "^err0 5 9 9;", 3);
        fine(thirty.substring(0, thirty.length() - 11) + "err0 5 9 9;", 6);
        SixMaps x = fine("within 9;" + NINE + "err 0 0 0 18;err 5 8 18 0;err 5 7 9 9;", 9);
        due("map(0, 0, 0)", x.map(0, 0, 0), 1 - 9);
        due("map(0, 0, 1)", x.map(0, 0, 1), 1 + 9);
        due("map(5, 8, 0)", x.map(5, 8, 0), 9 + 9);
        due("map(5, 8, 1)", x.map(5, 8, 1), 9 - 9);
        due("map(5, 7, 0)", x.map(5, 7, 0), 8);
        due("map(4, 8, 0), beside", x.map(4, 8, 0), 9);
        due("mark(8, 0), where it is", x.mark(8, 0), 9);
        due("told(1), an err is no lie", x.told(1), 0);
        fault(NINE + "err ^6 0 9 9;", 2);
        fault(NINE + "err 0 ^9 9 9;", 2);
        fault("err 0 ^0 9 9;", 2);
        fault("mark 1 1;err 0 ^1 9 9;", 2);
        SixMaps edge = fine("within 9;mark 0 99;err 1 0 0 18;", 1);
        due("map(1, 0, 0), below 0", edge.map(1, 0, 0), -9);
        due("map(1, 0, 1), above 99", edge.map(1, 0, 1), 108);
    }

    private static void errsWithinE() {
        by("Terms 1", "both within E either way; 0 .. 18)");
        for (int e : new int[] {0, 1, 4, 8, 9}) {
            String start = "within " + e + ";mark 50 50;err 2 0 ";
            for (int off : new int[] {-e, e}) {
                SixMaps x = fine(start + (9 + off) + " 9;", 1);
                due("map(2, 0, 0)", x.map(2, 0, 0), 50 + off);
                SixMaps y = fine(start + "9 " + (9 + off) + ";", 1);
                due("map(2, 0, 1)", y.map(2, 0, 1), 50 + off);
            }
            fault(start + "^" + (10 + e) + " 9;", 2);
            fault(start + "9 ^" + (10 + e) + ";", 2);
            if (e < 9) {
                fault(start + "^" + (8 - e) + " 9;", 2);
                fault(start + "9 ^" + (8 - e) + ";", 2);
            }
        }
        fault("mark 50 50;err 2 0 ^8 9;", 2);
        fault("mark 50 50;err 2 0 9 ^10;", 2);
    }

    private static void prices() {
        by("Terms 1", "'spade' P ';' (0 .. 999; 10 untold; once)");
        due("told(6), untold", fine("mark 1 1;", 1).told(6), 10);
        due("told(6), least", fine("spade 0;", 0).told(6), 0);
        due("told(6), most", fine("spade 999;", 0).told(6), 999);
        fault("spade ^1000;", 2);
        fault("spade 1;^spade 1;", 3);
        fault("spade 10;^spade 10;", 3);
        SixMaps x = fine("spade 999;", 0);
        x.island();
        due("told(6), untold behind 999", x.told(6), 10);
    }

    private static void prizes() {
        by("Terms 1", "'prize' V ';' (0 .. 9999; 100 untold; once)");
        due("told(7), untold", fine("mark 1 1;", 1).told(7), 100);
        due("told(7), least", fine("prize 0;", 0).told(7), 0);
        due("told(7), most", fine("prize 9999;", 0).told(7), 9999);
        fault("prize ^10000;", 2);
        fault("prize 1;^prize 1;", 3);
        fault("prize 100;^prize 100;", 3);
        SixMaps x = fine("prize 9999;", 0);
        x.island();
        due("told(7), untold behind 9999", x.told(7), 100);
    }

    private static void behindAllMarks() {
        by("Terms 1", "'goal', 'lie', 'err' behind all 'mark'");
        fault("mark 1 1;goal 0 0 0;^mark 1 1;", 1);
        fault("mark 1 1;lie 0 0 5 5;^mark 1 1;", 1);
        fault("mark 1 1;err 0 0 9 9;^mark 1 1;", 1);
        fault("mark 1 1;goal 0 0 0;spade 1;prize 1;within 1;^mark 1 1;", 1);
        // Prices, prizes and each of the three among themselves may come as they like.
        fine("spade 1;mark 1 1;prize 1;mark 2 2;", 2);
        fine("mark 1 1;lie 0 0 5 5;goal 0 0 0;", 1);
        fine("mark 1 1;err 0 0 9 9;goal 0 0 0;lie 1 0 5 5;", 1);
        fine("mark 1 1;goal 0 0 0;err 0 0 9 9;lie 1 0 5 5;spade 1;prize 1;", 1);
    }

    private static void behindWithin() {
        by("Terms 1", "'lie', 'err' behind 'within', if that is told");
        fault("mark 1 1;lie 0 0 5 5;^within 1;", 1);
        fault("mark 1 1;err 0 0 9 9;^within 1;", 1);
        fault("mark 1 1;lie 0 0 5 5;spade 1;^within 0;", 1);
        fine("mark 1 1;within 1;lie 0 0 5 5;err 1 0 8 10;", 1);
        fine("within 1;mark 1 1;lie 0 0 5 5;err 1 0 8 10;", 1);
        fine("mark 1 1;within 1;mark 2 2;err 0 0 8 10;", 2);
        fine("mark 1 1;goal 0 0 0;within 1;err 0 0 8 10;", 1);
        fine("mark 1 1;lie 0 0 1 2;err 1 0 9 9;", 1);
    }

    private static void aMapsMarkOnce() {
        by("Terms 1", "a MAP's MARK by one of both once.");
        fault("mark 1 1;err 0 0 9 9;err 0 ^0 9 9;", 4);
        fault("mark 1 1;err 0 0 9 9;lie 0 ^0 5 5;", 4);
        fault("mark 1 1;lie 0 0 5 5;err 0 ^0 9 9;", 4);
        fault(NINE + "err 5 8 9 9;err 5 7 9 9;err 5 ^8 9 9;", 4);
        fine("mark 1 1;mark 2 2;lie 0 0 5 5;err 0 1 9 9;", 2);
        fine("mark 1 1;mark 2 2;lie 0 0 5 5;err 1 0 9 9;lie 2 0 5 5;", 2);
        // What an island before has told, or a text with a fault, does not count.
        SixMaps x = fine("mark 1 1;lie 0 0 5 5;err 1 0 9 9;", 1);
        Check.feed(x, "mark 1 1;err 0 0 9 9;lie 1 0 5 5;oops");
        due("island()", x.island(), -11);
        Check.feed(x, "mark 1 1;err 0 0 9 9;lie 1 0 5 5;");
        due("island() again", x.island(), 1);
        due("told(1)", x.told(1), 1);
    }

    // ---- numbers, words, blanks

    private static void figures() {
        by("Terms 1", "NUMBERS have one to four figures");
        due("one figure", fine("prize 7;", 0).told(7), 7);
        due("two figures", fine("prize 07;", 0).told(7), 7);
        due("three figures", fine("prize 070;", 0).told(7), 70);
        due("four figures", fine("prize 0700;", 0).told(7), 700);
        due("the figures 0 and 9", fine("prize 9090;", 0).told(7), 9090);
        fine("mark 0001 0099;", 1);
        fault("prize ^00007;", 2);
        fault("prize ^12345;", 2);
        fault("mark 1 ^00000;", 2);
        fault("prize ^0000000000007;", 2);
        fault("prize ^" + "4294967297" + ";", 2);
        fault("prize ^" + "9".repeat(300) + ";", 2);
        fault("prize^;", 1);
        fault("mark 1^;", 1);
    }

    private static void lettersAndBlanks() {
        by("Terms 1", "words are letters a .. z side by side; blanks (32) may stand anywhere but within words and NUMBERS");
        fine("   mark   1   1   ;   ", 1);
        fine("mark 1 1;spade 1;prize 1;within 1;", 1);
        fine("mark 1 1 ; goal 0 0 0 ;", 1);
        // The signs beside a and z, 0 and 9 are no letters, no figures.
        fault("mark^`1 1;", 1);
        fault("mark^{1 1;", 1);
        fault("mark 1^/ 1;", 1);
        fault("mark 1^: 1;", 1);
        fault("^`mark 1 1;", 1);
        fault("^{mark 1 1;", 1);
        fault("mark ^/1 1;", 1);
        fault("mark ^:1 1;", 1);
        fault("^Mark 1 1;", 1);
        fault("^marK 1 1;", 1);
        fault("^ma rk 1 1;", 1);
        fault("mark 1 0 ^0;", 1);
        for (int sign : new int[] {0, 1, 9, 10, 13, 31, 33, 127, 128, 160, 255}) {
            fault("mark 1^" + (char) sign + "1;", 1);
            fault("mark 1 1;^" + (char) sign, 1);
        }
    }

    private static void needABlank() {
        by("Terms 1", "two words, two NUMBERS side by side need one");
        fault("mark 11^;", 1);
        fine("mark1 1;mark 2 2;goal0 0 0;within1;err0 0 9 9;spade5;prize5;", 2);
        fault("^markmark 1 1;", 1);
        fault("mark ^mark 1 1;", 1);
        fine("mark 1 1;mark 2 2;", 2);
        fine("prize 7;spade 8;", 0);
    }

    // ---- faults

    private static void theFirstByte() {
        by("Terms 1", "FAULTS, at the first byte that has one");
        fault("mark 1 ^100;oops", 2);
        fault("prize 1;^prize 12345;oops", 3);
        fault("mark 1 1;lie 0 0 1 ^1;oops", 4);
        fault("mark 1 1;err 0 0 9 9;err 0 ^0 99 99;", 4);
        fault("mark 1 1;lie 0 0 5 5;lie ^0 9 99 99;", 4);
        fault("mark 1 1;lie ^6 1 100 100;", 2);
        fault("^;mark 1 1;", 1);
    }

    private static void theEnd() {
        by("Terms 1", "(the end at the text's length)");
        fault("mark^", 1);
        fault("mark ^", 1);
        fault("mark 1^", 1);
        fault("mark 1  ^", 1);
        fault("mark 1 1^", 1);
        fault("mark 1 1   ^", 1);
        fault("  prize^", 1);
        fault("mark 1 1;lie 0 0 5 5^", 1);
        fault("mark 1 1;goal 0 0^", 1);
        // A word that is cut off is another word; a number that is out of its bounds is so without an end.
        fault("^mar", 1);
        fault("mark 1 ^100", 2);
        fault("prize ^10000", 2);
    }

    private static void theLeast() {
        by("Terms 1", "of these the least");
        // 1 and 2: a number where none can stand. 1 and 3: too often and too late. 2 and 4: out of bounds and not farther.
        fault("mark 1 1 ^12345;", 1);
        fault("^12345;", 1);
        fault(NINE + "goal 0 0 0;^mark 1 1;", 1);
        fault("within 1;mark 1 1;err 0 0 9 9;^within 1;", 1);
        fault("within 1;mark 1 1;lie 0 0 9 9;^within 1;", 1);
        fault("within 9;mark 99 99;lie 0 0 99 ^100;", 2);
        fault("mark 1 1;lie 0 0 1 ^00001;", 2);
    }

    private static void faultsOfKind1() {
        by("Terms 1", "1 it cannot stand there (a word that cannot, one behind such as it must be ahead of: at its first letter).");
        for (String word : new String[] {"mark", "goal", "within", "lie", "err", "spade", "prize"}) {
            for (int i = 0; i < word.length(); i++) {
                fault("mark 1 1; ^" + word.substring(0, i) + "x" + word.substring(i + 1) + " 0 0 9 9;", 1);
            }
            fault("mark 1 1; ^" + word.substring(1) + " 0 0 9 9;", 1);
            fault("mark 1 1; ^" + word + word.charAt(0) + " 0 0 9 9;", 1);
        }
        fault("^island 1;", 1);
        fault("^marks 1 1;", 1);
        fault("^m 1 1;", 1);
        fault("  ^lies 0 0 1 1;", 1);
        fault("mark 1 ^prize 1;", 1);
        fault("mark 1 1 ^prize 1;", 1);
        fault("mark 1 1^prize 1;", 1);
        fault("mark 1 1;^7;", 1);
        fault("mark 1 1;^;", 1);
        fault("mark^;", 1);
        fault("mark 1 1 ^1;", 1);
        fault("mark 1 1;goal 0 0 0 ^0;", 1);
        fault("within 1 ^1;", 1);
        fault("mark 1 1;lie 0 0 5 5 ^5;", 1);
        fault("mark 1 1;err 0 0 9 9 ^9;", 1);
        fault("spade 1 ^1;", 1);
        fault("prize 1 ^1;", 1);
        fault("mark 1 1;goal 0 0^;", 1);
        fault("mark 1 1;lie 0 0 5^;", 1);
        fault("mark 1 1;err 0 0 9^;", 1);
        fault("within^;", 1);
        fault("spade^;", 1);
    }

    private static void faultsOfKind2() {
        by("Terms 1", "2 a NUMBER of five figures or more, or out of its bounds; a MARK that there is not; off by more than E (at its first).");
        fault("mark   ^100   1;", 2);
        fault("spade ^00001;", 2);
        fault("within ^00000;", 2);
        fault(NINE + "goal ^00001 0 0;", 2);
        fault(NINE + "lie ^00001 0 0 0;", 2);
        fault(NINE + "lie 1 ^00001 0 0;", 2);
        fault(NINE + "err 1 1 ^00009 9;", 2);
        fault("mark 1 1;goal 0   ^1 0;", 2);
        fault("within 2;mark 1 1;err 0 0   ^12 9;", 2);
        fault("within 2;mark 1 1;err 0 0 9   ^6;", 2);
    }

    private static void faultsOfKind3() {
        by("Terms 1", "3 a clause that was told already; a tenth MARK, a third 'lie', a 31st 'err' (at its first letter).");
        fault("spade 1;  ^spade", 3);
        fault("prize 1;^prize oops", 3);
        fault("within 1;^within 99;", 3);
        fault("mark 1 1;goal 0 0 0; ^goal 9;", 3);
        fault(NINE + "  ^mark", 3);
        fault("mark 1 1;lie 0 0 5 5;lie 1 0 5 5; ^lie 0 0 5 5;", 3);
    }

    private static void faultsOfKind4() {
        by("Terms 1", "4 a MAP that lies already (at the M); a MAP's MARK again (at the K); a lie that is not farther (at the Y).");
        fault("mark 1 1;mark 2 2;lie 4 0 5 5;lie  ^4 1 5 5;", 4);
        fault("mark 1 1;mark 2 2;err 4 1 9 9;err 4  ^1 9 9;", 4);
        fault("mark 1 1;mark 2 2;err 4 1 9 9;lie 4  ^1 9 9;", 4);
        fault("mark 1 1;lie 4 0 1  ^1;", 4);
        // A MAP that lies may be off at another MARK, ahead of the lie or behind it.
        fine("mark 1 1;mark 2 2;lie 4 0 5 5;err 4 1 9 9;", 2);
        fine("mark 1 1;mark 2 2;err 4 1 9 9;lie 4 0 5 5;", 2);
    }

    private static void liarsAsLies() {
        by("Terms 1", "With fewer than two lies fewer MAPS lie: LIARS are as many as lies are told.");
        int[] sets = {1, 6, 15};
        String[] lies = {"", "lie 0 0 5 5;", "lie 0 0 5 5;lie 1 0 6 6;"};
        for (int i = 0; i < 3; i++) {
            SixMaps x = fine("mark 1 1;" + lies[i], 1);
            due("told(1)", x.told(1), i);
            due("may(2, NONE)", x.may(2, NONE), sets[i]);
        }
    }

    private static void mapsAreBands() {
        by("Terms 1", "MAPS 0 to 5 are the BANDS', MAP b is BAND b's.");
        SixMaps x = fine(NINE, 9);
        for (int b = 0; b < 6; b++) {
            for (int m = 0; m < 6; m++) {
                due("knows(" + b + ", " + m + ")", x.knows(b, m), b == m ? 511 : 0);
            }
        }
    }

    // ---- promises 3 to 5

    private static void theTextIsEmptyThen() {
        by("Promise 3", "THE TEXT (it is empty then) becomes THE ISLAND");
        SixMaps x = new SixMaps();
        Check.feed(x, "mark 1 1;");
        due("island()", x.island(), 1);
        due("told(8)", x.told(8), 0);
        due("island() of nothing", x.island(), 0);
        due("told(0)", x.told(0), 0);
        Check.feed(x, "oops");
        due("island() with a fault", x.island(), -11);
        due("told(8)", x.told(8), 0);
        due("feed(1, ' ')", x.feed(1, ' '), 1);
        due("island() behind a fault", x.island(), 0);
    }

    private static void allIsNew() {
        by("Promise 3", "(BANDS KNOW their own MAPS, purses 0, no SPADES, SAYINGS; IMAGES are gone)");
        SixMaps x = fine("within 1;mark 1 1;mark 2 2;mark 9 9;goal 1 1 0;lie 3 0 9 9;err 4 1 8 8;spade 3;prize 30;", 3);
        x.show(1, 0, 0);
        x.trade(2, 1, 5, 0);
        x.dig(4, 9, 9);
        x.say(1, 1, true);
        x.keep(0);
        x.keep(1);
        x.dig(5, 3, 3);
        due("told(11), it was found", x.told(11), 5);
        Check.feed(x, "mark 8 8;");
        due("island()", x.island(), 1);
        toldIs(x, 1, 0, 0, 0, 0, 0, 10, 100, 0, 0, 0, NONE);
        for (int b = 0; b < 6; b++) {
            due("purse(" + b + ")", x.purse(b), 0);
            due("map(" + b + ", 0, 0)", x.map(b, 0, 0), 8);
            for (int m = 0; m < 6; m++) {
                due("knows(" + b + ", " + m + ")", x.knows(b, m), b == m ? 1 : 0);
            }
        }
        due("goBack(0)", x.goBack(0), -1000003);
        due("goBack(1)", x.goBack(1), -1000003);
        due("saying(0, 0)", x.saying(0, 0), -1000001);
        due("dig, for it is not found any more", x.dig(0, 8, 8), 1);
    }

    /** Whatever was told before, in islands or in texts with a fault: what a text does not tell is untold. */
    private static void untoldIsUntold() {
        by("Promise 3", "THE TEXT (it is empty then) becomes THE ISLAND");
        String all = "within 9;" + NINE + "goal 8 7 6;lie 0 0 50 50;lie 5 8 50 50;spade 999;prize 9999;";
        for (String between : new String[] {"", "mark 1 1;", "oops", all, all + "oops"}) {
            SixMaps x = fine(all, 9);
            Check.feed(x, between);
            x.island();
            Check.feed(x, "mark 1 2;");
            due("island() behind '" + between + "'", x.island(), 1);
            toldIs(x, 1, 0, 0, 0, 0, 0, 10, 100, 0, 0, 0, NONE);
            for (int m = 0; m < 6; m++) {
                due("map(" + m + ", 0, 0)", x.map(m, 0, 0), 1);
                due("saying, MAP " + m + " lies", x.saying(x.say(0, m, true), 0), 0);
            }
        }
    }

    private static void allIsAsItWas() {
        by("Promise 3", "-10 less the number of its FAULT (all is as it was)");
        Consumer<SixMaps> before = x -> {
            Check.feed(x, "within 1;mark 1 1;mark 2 2;mark 9 9;goal 1 1 0;lie 3 0 9 9;err 4 1 8 8;spade 3;prize 30;");
            x.island();
            x.show(1, 0, 0);
            x.dig(4, 9, 9);
            x.say(1, 1, true);
            x.keep(0);
            x.show(2, 0, 0);
            x.seed(5);
            Check.feed(x, "oops");
            x.island();
        };
        List<String> was = Probe.of(before);
        String[] faults = {"^oops", "mark 7 7;mark 8 ^100;", "mark 7 7;spade 1;^spade 1;",
            "within 2;mark 7 7;mark 6 6;goal 0 1 1;spade 5;prize 6;lie 0 1 50 50;lie 1 0 7 ^7;"};
        for (int i = 0; i < faults.length; i++) {
            String text = faults[i];
            int answer = -11 - i;
            List<String> is = Probe.of(before.andThen(x -> {
                Check.feed(x, text.replace("^", ""));
                due("island() of '" + text + "'", x.island(), answer);
                due("fault()", x.fault(), text.indexOf('^'));
                // The byte of the fault alone is another one: the first fault again makes it the same.
                Check.feed(x, "oops");
                x.island();
            }));
            String unlike = Probe.unlike(was, is);
            Check.holds("'" + text + "' leaves all as it was: " + unlike, unlike == null);
        }
    }

    private static void theLatestFault() {
        by("Promise 4", "The byte of the FAULT of the latest island(); NONE.");
        SixMaps x = new SixMaps();
        due("fault(), new", x.fault(), NONE);
        Check.feed(x, "mark 1 1");
        due("fault(), fed", x.fault(), NONE);
        x.island();
        due("fault(), a fault", x.fault(), 8);
        Check.feed(x, "mark 1 1;");
        due("fault(), fed again", x.fault(), 8);
        x.island();
        due("fault(), fine", x.fault(), NONE);
        Check.feed(x, ";");
        x.island();
        due("fault(), the first byte", x.fault(), 0);
        Check.feed(x, " ;");
        x.island();
        due("fault(), the latest", x.fault(), 1);
        x.island();
        due("fault(), nothing is told", x.fault(), NONE);
    }

    private static void toldAll() {
        by("Promise 5", "How many: 0 MARKS, 1 LIARS, 2 E, 3 to 5 A, B, C, 6 price of a spade, 7 V, 8 bytes of THE TEXT, 9 SPADES, 10 SAYINGS, "
                + "11 the BAND that found it (NONE). OUTSIDE.");
        String all = "goal 8 7 6;lie 0 0 50 50;lie 5 8 50 50;spade 999;prize 9999;";
        SixMaps x = fine("within 9;" + NINE + all, 9);
        toldIs(x, 9, 2, 9, 8, 7, 6, 999, 9999, 0, 0, 0, NONE);
        for (int i = 1; i <= 20; i++) {
            x.dig(0, 0, 0);
            due("told(9)", x.told(9), i);
            x.say(0, 0, true);
            due("told(10)", x.told(10), i);
        }
        Check.feed(x, blanks(400));
        toldIs(x, 9, 2, 9, 8, 7, 6, 999, 9999, 400, 20, 20, NONE);
        for (int b = 0; b < 6; b += 5) {
            SixMaps y = fine("mark 4 4;", 1);
            y.dig(b, 4, 4);
            due("told(11)", y.told(11), b);
            due("told(9), none for what was found", y.told(9), 0);
        }
        for (int what : new int[] {-1, 12, LEAST, MOST}) {
            due("told(" + what + ")", x.told(what), OUTSIDE);
        }
    }
}
