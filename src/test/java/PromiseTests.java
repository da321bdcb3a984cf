/** Promise by promise: ordinary inputs, the edges that the document names, wrong inputs. */
public final class PromiseTests {
    private static final int NONE = -1, UNKNOWN = -1000001, OUTSIDE = -1000002, NOT = -1000003, FULL = -1000004;
    private static final int LEAST = Integer.MIN_VALUE, MOST = Integer.MAX_VALUE;
    private static final String THREE = "mark 10 20;mark 30 50;mark 25 60;goal 0 1 2;lie 1 0 40 40;lie 4 2 9 9;spade 7;prize 90;";
    private static final String ONE = "mark 5 6;lie 0 0 9 9;lie 1 0 9 9;prize 9999;spade 0;";
    private static final String LOOSE = "within 2;mark 20 20;mark 60 30;goal 1 1 0;lie 0 1 10 30;err 2 0 11 8;";

    private PromiseTests() {
    }

    public static void main(String[] args) {
        aNewObject();
        feed();
        islandAnswers();
        islandStartsAnew();
        faultsOfWords();
        faultsOfNumbers();
        faultsOfTooMany();
        faultsOfClashes();
        told();
        mark();
        map();
        leads();
        knows();
        show();
        trade();
        dig();
        purse();
        may();
        mayByQuarrels();
        mayByPlaces();
        mayBySpades();
        sure();
        area();
        best();
        corner();
        bestCorner();
        spades();
        found();
        say();
        forget();
        saying();
        loudest();
        hunt();
        seed();
        keep();
        goBack();
        Check.end();
    }

    private static void due(String call, long got, long want) {
        Check.due(call, got, want);
    }

    private static void fault(String text, int number, int at) {
        SixMaps x = new SixMaps();
        Check.feed(x, text);
        due("island() of '" + text + "'", x.island(), -10 - number);
        due("fault() of '" + text + "'", x.fault(), at);
    }

    private static void fine(String text, int marks) {
        SixMaps x = new SixMaps();
        Check.feed(x, text);
        due("island() of '" + text + "'", x.island(), marks);
        due("fault() of '" + text + "'", x.fault(), NONE);
    }

    private static void aNewObject() {
        SixMaps x = new SixMaps();
        int[] told = {0, 0, 0, 0, 0, 0, 10, 100, 0, 0, 0, NONE};
        for (int what = 0; what < told.length; what++) {
            due("new: told(" + what + ")", x.told(what), told[what]);
        }
        due("new: fault()", x.fault(), NONE);
        due("new: mark(0, 0)", x.mark(0, 0), UNKNOWN);
        due("new: knows(0, 0)", x.knows(0, 0), 0);
        due("new: may(5, -1)", x.may(5, -1), 1);
        due("new: sure(0, 1)", x.sure(0, 1), 63);
        due("new: area(0, 0, 1)", x.area(0, 0, 1), NOT);
        due("new: bestCorner(0, 0)", x.bestCorner(0, 0), NONE);
        due("new: found(3)", x.found(3), 0);
        due("new: seed(0)", x.seed(0), 0);
    }

    private static void feed() {
        SixMaps x = new SixMaps();
        due("feed(0, 1)", x.feed(0, 1), OUTSIDE);
        due("feed(9, 1)", x.feed(9, 1), OUTSIDE);
        due("feed(least, 1)", x.feed(LEAST, 1), OUTSIDE);
        // 'X' stands above the bytes that count and must not come in.
        due("feed(3, 'Xpri')", x.feed(3, 0x58707269L), 3);
        due("feed(5, 'ze 7;')", x.feed(5, 0x7A6520373BL), 8);
        due("feed: island()", x.island(), 0);
        due("feed: told(7)", x.told(7), 7);
        for (int i = 1; i <= 49; i++) {
            due("feed(8, -1)", x.feed(8, -1L), 8 * i);
        }
        due("feed(7, 0)", x.feed(7, 0), 399);
        due("feed(2, 0)", x.feed(2, 0), FULL);
        due("feed(9, 0), full", x.feed(9, 0), OUTSIDE);
        due("feed(1, 0)", x.feed(1, 0), 400);
        due("feed(1, 0), full", x.feed(1, 0), FULL);
        due("told(8)", x.told(8), 400);
        due("island() of 400", x.island(), -11);
        due("told(8) then", x.told(8), 0);
    }

    private static void islandAnswers() {
        fine("", 0);
        fine("   ", 0);
        fine("spade 5;", 0);
        fine("mark 0 0;", 1);
        fine(" mark  99 99 ; ", 1);
        fine("mark0 0;mark1 1;within3;goal0 1 0;", 2);
        fine("mark 0007 0;", 1);
        fine("mark 1 1;mark 1 1;mark 1 1;mark 1 1;mark 1 1;mark 1 1;mark 1 1;mark 1 1;mark 1 1;", 9);
        fine("spade 0;prize 0;within 0;", 0);
        fine("spade 999;prize 9999;within 9;mark 9 9;err 0 0 0 18;err 1 0 18 0;", 1);
        fine("mark 1 1;goal 0 0 0;within 3;lie 5 0 8 1;", 1);
        fine("mark 50 50;within 4;lie 0 0 59 50;lie 1 0 50 41;", 1);
        fine("mark 50 50;lie 0 0 50 51;err 1 0 9 9;spade 3;", 1);
    }

    private static void islandStartsAnew() {
        SixMaps x = Check.told(THREE);
        x.show(1, 0, 0);
        x.dig(2, 1, 1);
        x.say(0, 1, true);
        x.keep(0);
        Check.feed(x, "mark 1 1;oops");
        due("island() with a fault", x.island(), -11);
        due("a fault: told(0)", x.told(0), 3);
        due("a fault: told(9)", x.told(9), 1);
        due("a fault: told(10)", x.told(10), 1);
        due("a fault: knows(0, 1)", x.knows(0, 1), 1);
        due("a fault: purse(2)", x.purse(2), -7);
        due("a fault: told(8)", x.told(8), 0);
        due("a fault: map(1, 0, 0)", x.map(1, 0, 0), 40);
        due("a fault: goBack(0)", x.goBack(0), 1);
        x.dig(2, 15, 10);
        due("it was found", x.told(11), 2);
        x.seed(77);
        Check.feed(x, "mark 1 2;");
        due("island() anew", x.island(), 1);
        int[] told = {1, 0, 0, 0, 0, 0, 10, 100, 0, 0, 0, NONE};
        for (int what = 0; what < told.length; what++) {
            due("anew: told(" + what + ")", x.told(what), told[what]);
        }
        due("anew: fault()", x.fault(), NONE);
        due("anew: knows(0, 0)", x.knows(0, 0), 1);
        due("anew: knows(0, 1)", x.knows(0, 1), 0);
        due("anew: purse(2)", x.purse(2), 0);
        due("anew: goBack(0)", x.goBack(0), NOT);
        due("anew: the seed stays", x.seed(0), 77);
        due("anew: map(1, 0, 0)", x.map(1, 0, 0), 1);
    }

    private static void faultsOfWords() {
        fault("marc 1 1;", 1, 0);
        fault("marks 1 1;", 1, 0);
        fault("  Mark 1 1;", 1, 2);
        fault("mark 1 1;;", 1, 9);
        fault("5;", 1, 0);
        fault("12345;", 1, 0);
        fault("mark 1;", 1, 6);
        fault("mark 1 1 1;", 1, 9);
        fault("mark 1 1 12345;", 1, 9);
        fault("mark 1 x;", 1, 7);
        fault("mark 1 1x;", 1, 8);
        fault("mark 1 1", 1, 8);
        fault("mark 1 1  ", 1, 10);
        fault("mark", 1, 4);
        fault("mar", 1, 0);
        fault("mark\t1 1;", 1, 4);
        fault("mark -1 1;", 1, 5);
        fault("mark 1 1;" + (char) 200, 1, 9);
        fault("mark 1 1" + (char) 0 + ";", 1, 8);
        fault("markmark 1 1;", 1, 0);
        fault("mark mark 1 1;", 1, 5);
        fault("mark 1 1;goal 0 0 0;mark 1 1;", 1, 20);
        fault("mark 1 1;lie 0 0 5 5;mark 1 1;", 1, 21);
        fault("mark 1 1;err 0 0 9 9;mark 1 1;", 1, 21);
        fault("mark 1 1;err 0 0 9 9;within 0;", 1, 21);
        fault("within 1;mark 1 1;err 0 0 9 9;within 0;", 1, 30);
    }

    private static void faultsOfNumbers() {
        fault("mark 100 1;", 2, 5);
        fault("mark 1 100;", 2, 7);
        fault("mark 1 00001;", 2, 7);
        fault("mark 1 100", 2, 7);
        fault("within 10;", 2, 7);
        fault("spade 1000;", 2, 6);
        fault("prize 10000;", 2, 6);
        fault("goal 0 0 0;", 2, 5);
        fault("mark 1 1;goal 0 1 0;", 2, 16);
        fault("mark 1 1;goal 0 0 1;", 2, 18);
        fault("lie 0 0 1 1;", 2, 6);
        fault("mark 1 1;lie 6 0 1 1;", 2, 13);
        fault("mark 1 1;lie 0 1 1 1;", 2, 15);
        fault("mark 1 1;lie 0 0 100 1;", 2, 17);
        fault("mark 1 1;lie 0 0 50 100;", 2, 20);
        fault("mark 1 1;lie 0 0 1 100;", 2, 19);
        fault("mark 1 1;err 6 0 9 9;", 2, 13);
        fault("mark 1 1;err 0 1 9 9;", 2, 15);
        fault("mark 1 1;err 0 0 10 9;", 2, 17);
        fault("mark 1 1;err 0 0 9 8;", 2, 19);
        fault("within 2;mark 1 1;err 0 0 6 9;", 2, 26);
        fault("within 2;mark 1 1;err 0 0 11 12;", 2, 29);
        fault("within 9;mark 1 1;err 0 0 19 9;", 2, 26);
    }

    private static void faultsOfTooMany() {
        String nine = "mark 1 1;mark 1 1;mark 1 1;mark 1 1;mark 1 1;mark 1 1;mark 1 1;mark 1 1;mark 1 1;";
        fault(nine + "mark 1 1;", 3, 81);
        fault(nine + "goal 0 0 0;mark 1 1;", 1, 92);
        fault("within 1;within 1;", 3, 9);
        fault("spade 1;spade 1;", 3, 8);
        fault("prize 1; prize", 3, 9);
        fault("mark 1 1;goal 0 0 0;goal 0 0 0;", 3, 20);
        fault("mark 1 1;lie 0 0 5 1;lie 1 0 5 1;lie 2 0 5 1;", 3, 33);
        StringBuilder errs = new StringBuilder("mark1 1;mark2 2;mark3 3;mark4 4;mark5 5;mark6 6;");
        for (int i = 0; i < 30; i++) {
            errs.append("err").append(i % 6).append(' ').append(i / 6).append(" 9 9;");
        }
        fine(errs.toString(), 6);
        fault(errs + "err0 5 9 9;", 3, 378);
    }

    private static void faultsOfClashes() {
        fault("mark 1 1;lie 0 0 1 1;", 4, 19);
        fault("mark 1 1;lie 0 0 5 1;lie 0 0 5 1;", 4, 25);
        fault("mark 1 1;mark 2 2;lie 3 0 5 1;lie 3 1 5 1;", 4, 34);
        fault("mark 1 1;err 0 0 9 9;err 0 0 9 9;", 4, 27);
        fault("mark 1 1;err 0 0 9 9;lie 0 0 5 5;", 4, 27);
        fault("mark 1 1;lie 0 0 5 5;err 0 0 9 9;", 4, 27);
        fault("within 4;mark 50 50;lie 0 0 58 42;", 4, 31);
        fault("within 4;mark 50 50;lie 0 0 42 58;", 4, 31);
        fine("mark 1 1;mark 2 2;lie 0 0 5 5;err 0 1 9 9;err 1 0 9 9;", 2);
    }

    private static void told() {
        SixMaps x = Check.told("within 3;mark 1 2;mark 3 4;goal 1 0 1;lie 5 0 50 60;spade 12;prize 345;");
        int[] told = {2, 1, 3, 1, 0, 1, 12, 345, 0, 0, 0, NONE};
        for (int what = 0; what < told.length; what++) {
            due("told(" + what + ")", x.told(what), told[what]);
        }
        x.feed(3, 0);
        x.dig(0, 99, 99);
        x.say(0, 0, true);
        x.say(0, 0, true);
        due("told(8)", x.told(8), 3);
        due("told(9)", x.told(9), 1);
        due("told(10)", x.told(10), 2);
        x.dig(4, 1, 2);
        due("told(11)", x.told(11), 4);
        due("told(-1)", x.told(-1), OUTSIDE);
        due("told(12)", x.told(12), OUTSIDE);
    }

    private static void mark() {
        SixMaps x = Check.told(THREE);
        due("mark(0, 0)", x.mark(0, 0), 10);
        due("mark(0, 1)", x.mark(0, 1), 20);
        due("mark(2, 1)", x.mark(2, 1), 60);
        due("mark(3, 0)", x.mark(3, 0), UNKNOWN);
        due("mark(-1, 9)", x.mark(-1, 9), UNKNOWN);
        due("mark(0, 2)", x.mark(0, 2), OUTSIDE);
        due("mark(0, -1)", x.mark(0, -1), OUTSIDE);
    }

    private static void map() {
        SixMaps x = Check.told("within 2;mark 0 1;mark 99 50;lie 3 1 94 50;err 3 0 7 11;err 0 1 11 7;");
        due("map(3, 0, 0)", x.map(3, 0, 0), -2);
        due("map(3, 0, 1)", x.map(3, 0, 1), 3);
        due("map(0, 1, 0)", x.map(0, 1, 0), 101);
        due("map(0, 1, 1)", x.map(0, 1, 1), 48);
        due("map(3, 1, 0)", x.map(3, 1, 0), 94);
        due("map(2, 1, 0)", x.map(2, 1, 0), 99);
        due("map(6, 0, 0)", x.map(6, 0, 0), UNKNOWN);
        due("map(-1, 0, 0)", x.map(-1, 0, 0), UNKNOWN);
        due("map(0, 2, 5)", x.map(0, 2, 5), UNKNOWN);
        due("map(0, 0, 2)", x.map(0, 0, 2), OUTSIDE);
        due("map(0, 0, -1)", x.map(0, 0, -1), OUTSIDE);
    }

    private static void leads() {
        SixMaps x = Check.told(THREE);
        due("leads(0, 0)", x.leads(0, 0), 15);
        due("leads(0, 1)", x.leads(0, 1), 15);
        due("leads(0, 2)", x.leads(0, 2), 10);
        due("leads(0, 3)", x.leads(0, 3), 10);
        due("leads(1, 0)", x.leads(1, 0), 45);
        due("leads(4, 3)", x.leads(4, 3), 61);
        SixMaps y = Check.told(LOOSE);
        due("loose: leads(1, 0)", y.leads(1, 0), 94);
        due("loose: leads(1, 1)", y.leads(1, 1), 106);
        due("loose: leads(2, 0)", y.leads(2, 0), 92);
        due("loose: leads(2, 2)", y.leads(2, 2), 35);
        due("loose: leads(2, 3)", y.leads(2, 3), 47);
        due("leads(6, 9)", x.leads(6, 9), UNKNOWN);
        due("leads(-1, 0)", x.leads(-1, 0), UNKNOWN);
        due("leads(0, 4)", x.leads(0, 4), OUTSIDE);
        due("leads(0, -1)", x.leads(0, -1), OUTSIDE);
        SixMaps none = new SixMaps();
        due("no marks: leads(0, 4)", none.leads(0, 4), OUTSIDE);
        due("no marks: leads(0, 0)", none.leads(0, 0), NOT);
    }

    private static void knows() {
        SixMaps x = Check.told(THREE);
        due("knows(5, 5)", x.knows(5, 5), 7);
        due("knows(5, 4)", x.knows(5, 4), 0);
        x.show(4, 5, 2);
        due("knows(5, 4), shown", x.knows(5, 4), 4);
        due("knows(4, 5), shown", x.knows(4, 5), 0);
        due("knows(6, 0)", x.knows(6, 0), UNKNOWN);
        due("knows(0, 6)", x.knows(0, 6), UNKNOWN);
        due("knows(-1, 0)", x.knows(-1, 0), UNKNOWN);
        due("knows(0, -1)", x.knows(0, -1), UNKNOWN);
    }

    private static void show() {
        SixMaps x = Check.told(THREE);
        due("show(1, 0, 2)", x.show(1, 0, 2), 1);
        due("show(1, 0, 0)", x.show(1, 0, 0), 2);
        due("show(1, 0, 0) again", x.show(1, 0, 0), NOT);
        due("show(0, 1, 0)", x.show(0, 1, 0), 1);
        due("knows(0, 1)", x.knows(0, 1), 5);
        due("show(0, 0, 0)", x.show(0, 0, 0), UNKNOWN);
        due("show(6, 0, 0)", x.show(6, 0, 0), UNKNOWN);
        due("show(0, -1, 0)", x.show(0, -1, 0), UNKNOWN);
        due("show(0, 1, 3)", x.show(0, 1, 3), UNKNOWN);
        due("show(0, 1, -1)", x.show(0, 1, -1), UNKNOWN);
        due("no marks: show(0, 1, 0)", new SixMaps().show(0, 1, 0), UNKNOWN);
    }

    private static void trade() {
        SixMaps x = Check.told(THREE);
        due("trade(1, 2, 3, 0)", x.trade(1, 2, 3, 0), 1);
        due("knows(3, 1)", x.knows(3, 1), 4);
        due("knows(1, 3)", x.knows(1, 3), 1);
        due("trade(1, 2, 3, 1)", x.trade(1, 2, 3, 1), NOT);
        due("trade(1, 1, 3, 0)", x.trade(1, 1, 3, 0), NOT);
        due("knows(3, 1), refused", x.knows(3, 1), 4);
        due("knows(1, 3), refused", x.knows(1, 3), 1);
        due("trade(3, 1, 1, 0)", x.trade(3, 1, 1, 0), 1);
        due("trade(2, 0, 2, 1)", x.trade(2, 0, 2, 1), UNKNOWN);
        due("trade(6, 0, 2, 1)", x.trade(6, 0, 2, 1), UNKNOWN);
        due("trade(0, 0, -1, 1)", x.trade(0, 0, -1, 1), UNKNOWN);
        due("trade(0, 3, 1, 1)", x.trade(0, 3, 1, 1), UNKNOWN);
        due("trade(0, 0, 1, 3)", x.trade(0, 0, 1, 3), UNKNOWN);
    }

    private static void dig() {
        SixMaps x = Check.told(THREE);
        due("dig(6, 100, 0)", x.dig(6, 100, 0), UNKNOWN);
        due("dig(-1, 0, 0)", x.dig(-1, 0, 0), UNKNOWN);
        due("dig(0, 100, 0)", x.dig(0, 100, 0), OUTSIDE);
        due("dig(0, 0, 100)", x.dig(0, 0, 100), OUTSIDE);
        due("dig(0, -1, 0)", x.dig(0, -1, 0), OUTSIDE);
        due("dig(0, 0, -1)", x.dig(0, 0, -1), OUTSIDE);
        for (int i = 0; i < 20; i++) {
            due("dig(0, 99, 0)", x.dig(0, 99, 0), 0);
        }
        due("told(9)", x.told(9), 20);
        due("dig(0, 99, 0), full", x.dig(0, 99, 0), FULL);
        due("dig(0, 15, 100), full", x.dig(0, 15, 100), OUTSIDE);
        due("purse(0)", x.purse(0), -140);
        SixMaps y = Check.told(THREE);
        due("dig(1, 15, 11)", y.dig(1, 15, 11), 0);
        due("dig(1, 15, 10)", y.dig(1, 15, 10), 1);
        due("purse(1)", y.purse(1), 76);
        due("told(9), found", y.told(9), 1);
        due("dig(2, 15, 10), found", y.dig(2, 15, 10), NOT);
        due("dig(2, 15, 100), found", y.dig(2, 15, 100), OUTSIDE);
        due("no marks: dig(0, 0, 0)", new SixMaps().dig(0, 0, 0), NOT);
        due("no marks: dig(0, 0, 100)", new SixMaps().dig(0, 0, 100), OUTSIDE);
    }

    private static void purse() {
        SixMaps x = Check.told("mark 5 5;spade 999;prize 9999;");
        x.dig(3, 0, 0);
        due("purse(3)", x.purse(3), -999);
        x.dig(3, 5, 5);
        due("purse(3), found", x.purse(3), 8001);
        due("purse(2)", x.purse(2), 0);
        due("purse(6)", x.purse(6), UNKNOWN);
        due("purse(-1)", x.purse(-1), UNKNOWN);
    }

    private static void may() {
        SixMaps x = Check.told(ONE);
        int[] pairs = {3, 5, 6, 9, 10, 12, 17, 18, 20, 24, 33, 34, 36, 40, 48};
        due("may(0, -1)", x.may(0, -1), 15);
        for (int i = 0; i < 15; i++) {
            due("may(0, " + i + ")", x.may(0, i), pairs[i]);
        }
        due("may(0, 15)", x.may(0, 15), NONE);
        due("may(0, most)", x.may(0, MOST), NONE);
        due("may(0, -2)", x.may(0, -2), NONE);
        due("may(0, least)", x.may(0, LEAST), NONE);
        due("may(6, -1)", x.may(6, -1), UNKNOWN);
        due("may(-1, -1)", x.may(-1, -1), UNKNOWN);
        // Own map says 9 9; map 2 says 5 6: one of both lies, or both; a third one lies beside it.
        x.show(2, 0, 0);
        due("may(0, -1), apart", x.may(0, -1), 9);
        due("may(0, 0), apart", x.may(0, 0), 3);
        due("may(0, 2), apart", x.may(0, 2), 6);
        // Spades fell the sets that lead to where nothing was.
        due("dig(5, 9, 9)", x.dig(5, 9, 9), 0);
        due("may(0, -1), dug", x.may(0, -1), 5);
        due("may(0, 0), dug", x.may(0, 0), 3);
        due("may(0, 1), dug", x.may(0, 1), 5);
        due("may(0, 2), dug", x.may(0, 2), 9);
        SixMaps none = Check.told("mark 1 1;mark 2 2;");
        due("no liars: may(0, -1)", none.may(0, -1), 1);
        due("no liars: may(0, 0)", none.may(0, 0), 0);
        SixMaps one = Check.told("mark 1 1;lie 3 0 2 2;");
        due("one liar: may(0, -1)", one.may(0, -1), 6);
        due("one liar: may(0, 5)", one.may(0, 5), 32);
        one.show(1, 0, 0);
        // Both say the same, so neither could lie here alone.
        due("one liar: agreed", one.may(0, -1), 4);
        due("one liar: agreed, the first", one.may(0, 0), 4);
        one.show(3, 0, 0);
        due("one liar: outvoted", one.may(0, 0), 8);
        due("one liar: outvoted, how many", one.may(0, -1), 1);
    }

    private static void mayByQuarrels() {
        // Maps 0 and 1 are apart at marks 0 and 1; as a pair they have one lie each to tell.
        SixMaps x = Check.told("mark 1 1;mark 2 2;mark 3 3;lie 0 0 50 50;lie 1 1 60 60;");
        x.show(1, 0, 0);
        due("one quarrel: may(0, 0)", x.may(0, 0), 3);
        x.show(1, 0, 1);
        due("two quarrels: may(0, -1)", x.may(0, -1), 1);
        due("two quarrels: may(0, 0)", x.may(0, 0), 3);
        // Map 2 settles mark 0: map 0 is off there, so just one quarrel is left to map 1.
        x.show(2, 0, 0);
        due("one off: may(0, -1)", x.may(0, -1), 1);
        due("one off: sure(0, 0)", x.sure(0, 0), 3);
        // For band 2 both are off, or its own map lies with one of both: off at one mark, in a quarrel at the other.
        x.show(0, 2, 0);
        x.show(1, 2, 1);
        due("seen by another: may(2, -1)", x.may(2, -1), 3);
        due("seen by another: may(2, 0)", x.may(2, 0), 3);
        due("seen by another: may(2, 1)", x.may(2, 1), 5);
        due("seen by another: may(2, 2)", x.may(2, 2), 6);
    }

    private static void mayByPlaces() {
        // Boxes of 20 and 24 share 22 alone; 20 and 25 share nothing.
        SixMaps x = Check.told("within 2;mark 20 20;mark 60 60;lie 1 0 25 20;err 2 0 11 9;err 3 0 7 9;");
        x.show(2, 3, 0);
        due("loose: may(3, -1)", x.may(3, -1), 6);
        due("loose: area(3, 1, 0)", x.area(3, 1, 0), 20 + 20 - 20);
        x.show(1, 3, 0);
        // Without map 1 it is 20; without map 3 it is 23 or 24; any other one leaves no place.
        due("loose: may(3, -1) then", x.may(3, -1), 2);
        due("loose: may(3, 0) then", x.may(3, 0), 2);
        due("loose: may(3, 1) then", x.may(3, 1), 8);
        due("loose: area(3, 8, 0)", x.area(3, 8, 0), 23 + 23 - 24);
        SixMaps y = Check.told("within 2;mark 20 20;mark 60 60;lie 1 0 25 20;err 2 0 11 9;");
        y.show(1, 2, 0);
        // 22 and 25 are no farther than the boxes reach, so any map could lie.
        due("loose: may(2, -1)", y.may(2, -1), 6);
        due("loose: area(2, 1, 0)", y.area(2, 1, 0), 23 + 23 - 24);
        y.show(1, 2, 1);
        y.show(0, 2, 0);
        // 20 and 25 are farther, so map 0 or map 1 does, and map 2 is clear.
        due("loose: may(2, -1), apart", y.may(2, -1), 2);
        due("loose: sure(2, 1), apart", y.sure(2, 1), 60);
    }

    private static void mayBySpades() {
        String[] goals = {"0 1 2", "1 0 2", "1 2 0"};
        for (String goal : goals) {
            spadesAtLooseEnds(goal, "");
            spadesAtLooseEnds(goal, "err 1 0 10 9;err 2 0 8 9;");
            spadesAtLooseEnds(goal, "err 1 0 9 10;err 2 0 9 8;");
        }
        // A spade fells by X and Y, not by one of both.
        SixMaps y = Check.told(ONE);
        y.show(2, 0, 0);
        y.dig(5, 9, 8);
        y.dig(5, 8, 9);
        due("by spades: may(0, -1), beside", y.may(0, -1), 9);
        y.dig(5, 9, 9);
        due("by spades: may(0, -1), there", y.may(0, -1), 5);
    }

    /** For band 0 marks 1 and 2 are one place, mark 0 is not: no spade at the ends of where they lead fells anything. */
    private static void spadesAtLooseEnds(String goal, String errs) {
        SixMaps x = Check.told("within 1;mark 40 40;mark 20 20;mark 30 30;goal " + goal + ";" + errs
                + "err 1 1 10 10;err 2 1 8 8;err 1 2 10 10;err 2 2 8 8;");
        for (int m = 1; m < 3; m++) {
            x.show(m, 0, 0);
            x.show(m, 0, 1);
            x.show(m, 0, 2);
        }
        String of = "loose ends of " + goal + ", " + errs;
        Check.holds(of + " are two", x.area(0, 0, 0) < x.area(0, 0, 1) || x.area(0, 0, 2) < x.area(0, 0, 3));
        for (int i = 0; i < 4; i++) {
            due(of + ", dig", x.dig(1, x.area(0, 0, i / 2), x.area(0, 0, 2 + i % 2)), 0);
            due(of + ", may(0, -1)", x.may(0, -1), 1);
        }
    }

    private static void sure() {
        SixMaps x = Check.told(THREE);
        due("sure(0, 0)", x.sure(0, 0), 0);
        due("sure(0, 1)", x.sure(0, 1), 0);
        x.show(1, 0, 0);
        x.show(2, 0, 0);
        x.show(3, 0, 0);
        due("sure(0, 0), outvoted", x.sure(0, 0), 2);
        due("sure(0, 1), outvoted", x.sure(0, 1), 0);
        x.show(4, 0, 2);
        x.show(3, 0, 2);
        due("sure(0, 0), both", x.sure(0, 0), 18);
        due("sure(0, 1), both", x.sure(0, 1), 45);
        due("sure(1, 0)", x.sure(1, 0), 0);
        due("sure(6, 2)", x.sure(6, 2), UNKNOWN);
        due("sure(-1, 0)", x.sure(-1, 0), UNKNOWN);
        due("sure(0, 2)", x.sure(0, 2), OUTSIDE);
        due("sure(0, -1)", x.sure(0, -1), OUTSIDE);
    }

    private static void area() {
        SixMaps x = Check.told(THREE);
        due("area(0, 18, 0)", x.area(0, 18, 0), 15);
        due("area(0, 18, 3)", x.area(0, 18, 3), 10);
        due("area(0, 17, 0)", x.area(0, 17, 0), -99);
        due("area(0, 17, 1)", x.area(0, 17, 1), 198);
        due("area(0, 17, 2)", x.area(0, 17, 2), -99);
        due("area(0, 17, 3)", x.area(0, 17, 3), 198);
        x.show(2, 0, 0);
        due("area(0, 17, 0), one of three", x.area(0, 17, 0), 10 + 0 - 99);
        x.show(1, 0, 0);
        due("area(0, 3, 0), one of three", x.area(0, 3, 0), 10 + 0 - 99);
        due("area(0, 3, 3), one of three", x.area(0, 3, 3), 20 + 99 - 0);
        due("area(0, 17, 0), apart", x.area(0, 17, 0), NOT);
        due("area(0, 1, 0)", x.area(0, 1, 0), NOT);
        due("area(0, 7, 0)", x.area(0, 7, 0), NOT);
        due("area(0, 0, 0)", x.area(0, 0, 0), NOT);
        due("area(6, 64, 4)", x.area(6, 64, 4), UNKNOWN);
        due("area(-1, 3, 0)", x.area(-1, 3, 0), UNKNOWN);
        due("area(0, 64, 0)", x.area(0, 64, 0), OUTSIDE);
        due("area(0, -1, 0)", x.area(0, -1, 0), OUTSIDE);
        due("area(0, 3, 4)", x.area(0, 3, 4), OUTSIDE);
        due("area(0, 1, -1)", x.area(0, 1, -1), OUTSIDE);
        areaWithoutMarks("new", new SixMaps());
        areaWithoutMarks("empty text", Check.told(""));
        areaWithoutMarks("no mark in the text", Check.told("within 3; spade 2; prize 7;"));
        due("marks are gone: island()", x.island(), 0);
        areaWithoutMarks("marks are gone", x);
        Check.feed(x, "mark 4 5;");
        due("one mark: island()", x.island(), 1);
        due("one mark: area(0, 0, 0)", x.area(0, 0, 0), 4);
        due("one mark: area(5, 0, 3)", x.area(5, 0, 3), 5);
    }

    /** The empty SET MAY LIE then, yet nothing leads anywhere. */
    private static void areaWithoutMarks(String of, SixMaps x) {
        due(of + ": may(0, 0)", x.may(0, 0), 0);
        for (int what = 0; what < 4; what++) {
            due(of + ": area(0, 0, " + what + ")", x.area(0, 0, what), NOT);
            due(of + ": leads(0, " + what + ")", x.leads(0, what), NOT);
            due(of + ": area(5, 63, " + what + ")", x.area(5, 63, what), NOT);
        }
        due(of + ": area(6, 0, 0)", x.area(6, 0, 0), UNKNOWN);
        due(of + ": area(0, 64, 0)", x.area(0, 64, 0), OUTSIDE);
        due(of + ": area(0, 0, 4)", x.area(0, 0, 4), OUTSIDE);
        due(of + ": best(0, 0)", x.best(0, 0), NONE);
        due(of + ": spades(0)", x.spades(0), NONE);
    }

    private static void best() {
        SixMaps x = Check.told(THREE);
        due("best(0, 0)", x.best(0, 0), 15);
        due("best(0, 1)", x.best(0, 1), 10);
        due("best(0, 2)", x.best(0, 2), 10);
        due("best(0, 3)", x.best(0, 3), 90 * 10 / 15 - 7);
        due("best(6, 4)", x.best(6, 4), UNKNOWN);
        due("best(-1, 0)", x.best(-1, 0), UNKNOWN);
        due("best(0, 4)", x.best(0, 4), OUTSIDE);
        due("best(0, -1)", x.best(0, -1), OUTSIDE);
        // Two maps apart, four sets for each: of like ones the least X, then the least Y.
        SixMaps y = Check.told(ONE);
        y.show(2, 0, 0);
        due("like ones: best(0, 0)", y.best(0, 0), 5);
        due("like ones: best(0, 2)", y.best(0, 2), 4);
        due("like ones: best(0, 3)", y.best(0, 3), 9999 * 4 / 9);
        SixMaps z = Check.told("mark 5 6;lie 0 0 5 1;lie 1 0 9 9;spade 999;prize 1;");
        z.show(2, 0, 0);
        due("like in X: best(0, 0)", z.best(0, 0), 5);
        due("like in X: best(0, 1)", z.best(0, 1), 1);
        due("like in X: best(0, 2)", z.best(0, 2), 4);
        due("dear: best(0, 3)", z.best(0, 3), -999);
        SixMaps loose = Check.told(LOOSE);
        for (int what = 0; what < 4; what++) {
            due("loose: best(1, " + what + ")", loose.best(1, what), NONE);
        }
    }

    private static void corner() {
        SixMaps x = Check.told(ONE);
        // Far from all: one of both lies with one of four more, or both do.
        due("corner(3, 0, 0)", x.corner(3, 0, 0), 9);
        x.show(0, 3, 0);
        due("corner(3, 2, 0)", x.corner(3, 2, 0), 4);
        due("corner(3, 0, 0), known", x.corner(3, 0, 0), NOT);
        due("corner(3, 3, 0)", x.corner(3, 3, 0), UNKNOWN);
        due("corner(6, 0, 0)", x.corner(6, 0, 0), UNKNOWN);
        due("corner(0, 6, 0)", x.corner(0, 6, 0), UNKNOWN);
        due("corner(0, -1, 0)", x.corner(0, -1, 0), UNKNOWN);
        due("corner(3, 0, 1)", x.corner(3, 0, 1), UNKNOWN);
        due("corner(3, 0, -1)", x.corner(3, 0, -1), UNKNOWN);
        due("it tries and leaves all as it was", x.may(3, -1), 9);
        due("it shows nothing", x.knows(3, 2), 0);
        SixMaps y = Check.told(THREE);
        due("corner(0, 1, 0)", y.corner(0, 1, 0), 15);
        // A lie of map 1 is known, so a corner of map 2 at the same mark can agree with either.
        y.show(1, 0, 0);
        due("may(0, -1)", y.may(0, -1), 9);
        due("corner(0, 2, 0)", y.corner(0, 2, 0), 6);
        due("corner(0, 1, 1)", y.corner(0, 1, 1), 9);
    }

    private static void bestCorner() {
        SixMaps x = Check.told(THREE);
        due("bestCorner(0, 0)", x.bestCorner(0, 0), 1);
        due("bestCorner(0, 1)", x.bestCorner(0, 1), 0);
        due("bestCorner(0, 2)", x.bestCorner(0, 2), 15);
        x.show(1, 0, 0);
        due("bestCorner(0, 0), apart", x.bestCorner(0, 0), 2);
        due("bestCorner(0, 1), apart", x.bestCorner(0, 1), 0);
        due("bestCorner(0, 2), apart", x.bestCorner(0, 2), 6);
        due("bestCorner(6, 3)", x.bestCorner(6, 3), UNKNOWN);
        due("bestCorner(-1, 0)", x.bestCorner(-1, 0), UNKNOWN);
        due("bestCorner(0, 3)", x.bestCorner(0, 3), OUTSIDE);
        due("bestCorner(0, -1)", x.bestCorner(0, -1), OUTSIDE);
        SixMaps all = Check.told("mark 1 1;");
        for (int a = 1; a < 6; a++) {
            due("bestCorner(0, 0), before " + a, all.bestCorner(0, 0), a);
            all.show(a, 0, 0);
        }
        for (int what = 0; what < 3; what++) {
            due("all known: bestCorner(0, " + what + ")", all.bestCorner(0, what), NONE);
        }
    }

    private static void spades() {
        SixMaps x = Check.told(ONE);
        due("spades(2)", x.spades(2), NONE);
        x.show(0, 2, 0);
        x.show(3, 2, 0);
        // Maps 2 and 3 agree on 5 6: they are right, or both lie and it is 9 9.
        due("spades(2), two agree", x.spades(2), 2);
        x.show(4, 2, 0);
        due("spades(2), three agree", x.spades(2), 1);
        due("no liars: spades(0)", Check.told("mark 4 4;").spades(0), 1);
        // By band 0: map 1 lies or map 0 does, and it is dug at two places then.
        SixMaps y = Check.told("mark 5 6;lie 1 0 9 9;");
        due("one liar: spades(0)", y.spades(0), NONE);
        y.show(1, 0, 0);
        due("one liar: spades(0), apart", y.spades(0), 2);
        y.dig(0, 9, 9);
        due("one liar: spades(0), dug", y.spades(0), 1);
        due("spades(6)", x.spades(6), UNKNOWN);
        due("spades(-1)", x.spades(-1), UNKNOWN);
        due("no marks: spades(0)", new SixMaps().spades(0), NONE);
    }

    private static void found() {
        SixMaps x = Check.told(ONE);
        due("found(0)", x.found(0), 4);
        due("found(2)", x.found(2), 4);
        due("found(5)", x.found(5), 4);
        x.show(0, 2, 0);
        x.dig(1, 9, 9);
        due("found(2), whatever is known", x.found(2), 4);
        due("found(6)", x.found(6), UNKNOWN);
        due("found(-1)", x.found(-1), UNKNOWN);
        due("no liars: found(0)", Check.told("mark 4 4;").found(0), 0);
        SixMaps y = Check.told("mark 5 6;mark 7 8;lie 5 1 50 50;");
        // Band 0 is shown all of maps 1 to 4, and then maps 1 to 4 cannot lie: all agree, so map 5 does.
        due("the last one: found(0)", y.found(0), 8);
        due("the liar: found(5)", y.found(5), 4);
        // It is 20 and map 1 is off, or it is 23 and map 2 is off: nothing that is shown settles it.
        SixMaps never = Check.told("within 2;mark 20 20;lie 0 0 99 99;lie 1 0 25 20;err 2 0 7 9;err 3 0 11 9;err 4 0 11 9;err 5 0 11 9;");
        for (int b = 0; b < 6; b++) {
            due("never: found(" + b + ")", never.found(b), NONE);
        }
    }

    private static void say() {
        SixMaps x = Check.told(THREE);
        due("say(6, 0, true)", x.say(6, 0, true), UNKNOWN);
        due("say(-1, 0, true)", x.say(-1, 0, true), UNKNOWN);
        due("say(0, 6, true)", x.say(0, 6, true), UNKNOWN);
        due("say(0, -1, true)", x.say(0, -1, true), UNKNOWN);
        for (int i = 0; i < 20; i++) {
            due("say(0, 0, true)", x.say(0, 0, true), i);
        }
        due("say(0, 0, true), full", x.say(0, 0, true), FULL);
        due("say(0, 6, true), full", x.say(0, 6, true), UNKNOWN);
        due("told(10)", x.told(10), 20);
        due("no marks: say(5, 5, false)", new SixMaps().say(5, 5, false), 0);
    }

    private static void forget() {
        SixMaps x = Check.told(THREE);
        due("forget()", x.forget(), 0);
        x.say(0, 1, true);
        x.say(0, 1, true);
        due("forget(), two", x.forget(), 2);
        due("told(10)", x.told(10), 0);
        due("saying(0, 0)", x.saying(0, 0), UNKNOWN);
        due("say(0, 1, true)", x.say(0, 1, true), 0);
    }

    private static void saying() {
        SixMaps x = Check.told(THREE);
        x.say(0, 1, true);
        x.say(0, 1, false);
        x.say(0, 2, true);
        x.say(0, 2, false);
        int[] truth = {1, 0, 0, 1};
        int[] likely = {33, 66, 33, 66};
        for (int i = 0; i < 4; i++) {
            due("saying(" + i + ", 0)", x.saying(i, 0), truth[i]);
            due("saying(" + i + ", 1)", x.saying(i, 1), likely[i]);
        }
        x.show(1, 0, 0);
        // Five of nine: map 1 with any other one; without map 1 it is map 0 with one of four.
        due("saying(0, 1), shown", x.saying(0, 1), 55);
        due("saying(1, 1), shown", x.saying(1, 1), 44);
        due("saying(4, 2)", x.saying(4, 2), UNKNOWN);
        due("saying(-1, 0)", x.saying(-1, 0), UNKNOWN);
        due("saying(0, 2)", x.saying(0, 2), OUTSIDE);
        due("saying(0, -1)", x.saying(0, -1), OUTSIDE);
    }

    private static void loudest() {
        SixMaps x = Check.told(THREE);
        due("loudest()", x.loudest(), NONE);
        x.say(0, 1, true);
        due("loudest(), true", x.loudest(), NONE);
        x.say(4, 1, false);
        due("loudest(), one", x.loudest(), 4);
        x.say(2, 0, true);
        due("loudest(), like ones", x.loudest(), 2);
        x.say(4, 3, true);
        due("loudest(), two", x.loudest(), 4);
    }

    private static void hunt() {
        SixMaps x = Check.told(THREE);
        due("hunt(0)", x.hunt(0), OUTSIDE);
        due("hunt(21)", x.hunt(21), OUTSIDE);
        due("no marks: hunt(21)", new SixMaps().hunt(21), OUTSIDE);
        due("no marks: hunt(20)", new SixMaps().hunt(20), NOT);
        due("hunt(1)", x.hunt(1), 0);
        due("purse(0)", x.purse(0), 83);
        due("told(11)", x.told(11), 0);
        due("hunt(1), found", x.hunt(1), NOT);
        due("hunt(0), found", x.hunt(0), OUTSIDE);
        // Band 0's own map lies: it digs where that leads, pays, and band 1 does better.
        SixMaps y = Check.told("mark 5 5;lie 0 0 9 9;");
        due("a liar first: hunt(1)", y.hunt(1), 1);
        due("a liar first: purse(0)", y.purse(0), -10);
        due("a liar first: purse(1)", y.purse(1), 90);
        due("a liar first: told(9)", y.told(9), 1);
        tradesByDraws();
        due("no room: it digs on and pays", purseOfTheDeaf(), -40);
    }

    /** No spade is worth its price, so that a day is six trades: 18 draws. */
    private static void tradesByDraws() {
        SixMaps x = Check.told("mark 1 1;mark 2 2;mark 3 3;mark 4 4;lie 0 0 9 9;lie 1 0 8 8;prize 0;");
        x.seed(12345);
        due("trades: hunt(1)", x.hunt(1), NONE);
        long seed = 12345;
        int[][] known = new int[6][6];
        for (int b = 0; b < 6; b++) {
            known[b][b] = 15;
        }
        for (int b = 0; b < 6; b++) {
            int[] draws = new int[3];
            for (int i = 0; i < 3; i++) {
                seed = (seed * 1103515245L + 12345L) % 2147483648L;
                draws[i] = (int) (seed / 65536 % (i == 0 ? 5 : 4));
            }
            int other = draws[0] < b ? draws[0] : draws[0] + 1;
            known[other][b] |= 1 << draws[1];
            known[b][other] |= 1 << draws[2];
        }
        for (int b = 0; b < 6; b++) {
            for (int m = 0; m < 6; m++) {
                due("trades: knows(" + b + ", " + m + ")", x.knows(b, m), known[b][m]);
            }
        }
        due("trades: seed", x.seed(0), seed);
    }

    /** Band 0 is sure of a place where nothing lies; with 20 spades said aloud none more can fell it. */
    private static int purseOfTheDeaf() {
        SixMaps x = Check.told("mark 50 50;mark 20 20;mark 30 30;goal 0 1 2;lie 0 0 90 90;prize 60;spade 40;");
        for (int i = 0; i < 20; i++) {
            x.dig(5, 0, 0);
        }
        x.hunt(1);
        due("no room: told(9)", x.told(9), 20);
        due("no room: told(11)", x.told(11), 1);
        return x.purse(0);
    }

    private static void seed() {
        SixMaps x = new SixMaps();
        due("seed(5)", x.seed(5), 0);
        due("seed(most)", x.seed(MOST), 5);
        due("seed(-1)", x.seed(-1), OUTSIDE);
        due("seed(least)", x.seed(LEAST), OUTSIDE);
        due("seed(0)", x.seed(0), MOST);
        Check.feed(x, "mark 1 1;prize 0;");
        x.seed(MOST);
        x.island();
        x.hunt(20);
        long seed = MOST;
        for (int i = 0; i < 360; i++) {
            seed = (seed * 1103515245L + 12345L) % 2147483648L;
        }
        due("seed(0), 360 draws on", x.seed(0), seed);
    }

    private static void keep() {
        SixMaps x = Check.told(THREE);
        due("keep(-1)", x.keep(-1), UNKNOWN);
        due("keep(2)", x.keep(2), UNKNOWN);
        due("keep(0)", x.keep(0), 1);
        x.show(1, 0, 0);
        due("keep(1)", x.keep(1), 1);
        x.show(1, 0, 1);
        x.goBack(1);
        due("knows(0, 1) by image 1", x.knows(0, 1), 1);
        x.goBack(0);
        due("knows(0, 1) by image 0", x.knows(0, 1), 0);
        x.show(1, 0, 2);
        due("keep(0) again", x.keep(0), 1);
        x.goBack(1);
        x.goBack(0);
        due("knows(0, 1) by image 0 then", x.knows(0, 1), 4);
    }

    private static void goBack() {
        SixMaps x = Check.told(THREE);
        due("goBack(0)", x.goBack(0), NOT);
        due("goBack(2)", x.goBack(2), UNKNOWN);
        due("goBack(-1)", x.goBack(-1), UNKNOWN);
        x.seed(99);
        x.show(1, 0, 0);
        x.dig(0, 1, 1);
        x.dig(1, 45, 0);
        x.keep(1);
        due("goBack(0), not kept", x.goBack(0), NOT);
        x.seed(7);
        x.show(2, 0, 0);
        x.dig(0, 45, 30);
        x.dig(3, 15, 10);
        x.say(0, 0, true);
        due("told(11)", x.told(11), 3);
        due("goBack(1)", x.goBack(1), 1);
        due("back: told(9)", x.told(9), 2);
        due("back: told(10)", x.told(10), 1);
        due("back: told(11)", x.told(11), NONE);
        due("back: purse(0)", x.purse(0), -7);
        due("back: purse(3)", x.purse(3), 0);
        due("back: knows(0, 1)", x.knows(0, 1), 1);
        due("back: knows(0, 2)", x.knows(0, 2), 0);
        due("back: seed", x.seed(1), 99);
        x.dig(4, 2, 2);
        x.dig(3, 15, 10);
        due("back again", x.goBack(1), 1);
        due("back again: told(9)", x.told(9), 2);
        due("back again: told(11)", x.told(11), NONE);
        due("back again: seed", x.seed(1), 99);
        spadesOfImages();
    }

    /** Two images with one spade each, where the one fells sets and the other does not. */
    private static void spadesOfImages() {
        SixMaps x = Check.told(ONE);
        x.show(2, 0, 0);
        x.keep(0);
        x.dig(0, 9, 9);
        x.keep(1);
        x.goBack(0);
        due("spades of images: none", x.may(0, -1), 9);
        x.dig(0, 0, 9);
        due("spades of images: 0 9", x.may(0, -1), 9);
        x.goBack(1);
        due("spades of images: 9 9", x.may(0, -1), 5);
        x.goBack(0);
        x.dig(0, 9, 0);
        due("spades of images: 9 0", x.may(0, -1), 9);
        x.goBack(1);
        due("spades of images: 9 9 again", x.may(0, -1), 5);
    }
}
