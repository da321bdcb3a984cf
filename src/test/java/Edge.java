/** What the tests of edges share: the numbers, a plain island, and Check by short names. */
abstract class Edge {
    static final int NONE = -1, UNKNOWN = -1000001, OUTSIDE = -1000002, NOT = -1000003, FULL = -1000004;
    static final int LEAST = Integer.MIN_VALUE, MOST = Integer.MAX_VALUE;
    static final int[] NO_BANDS = {-1, 6, LEAST, MOST};
    static final String NINE = "mark 1 1;mark 2 2;mark 3 3;mark 4 4;mark 5 5;mark 6 6;mark 7 7;mark 8 8;mark 9 9;";

    static void by(String part, String words) {
        Check.by(part, words);
    }

    static void due(String call, long got, long want) {
        Check.due(call, got, want);
    }

    static SixMaps told(String text) {
        return Check.told(text);
    }

    /** BAND 'from' shows BAND 'to' all MARKS of its MAP. */
    static void showAll(SixMaps x, int from, int to) {
        int marks = x.told(0);
        for (int k = 0; k < marks; k++) {
            x.show(from, to, k);
        }
    }
}
