import java.util.Arrays;

/** An island of nine marks, six bands with a map each, and two maps of these that lie. */
public final class SixMaps {
    public static final int NONE = -1, UNKNOWN = -1000001, OUTSIDE = -1000002, NOT = -1000003, FULL = -1000004;

    private static final int BANDS = 6, MARKS_MOST = 9, TEXT_MOST = 400, FEED_MOST = 8;
    private static final int SPADES_MOST = 20, SAYINGS_MOST = 20, DAYS_MOST = 20, IMAGES = 2;
    private static final int PLACE_MOST = 99, SET_MOST = 63, PAIRS = 15, ENDS = 4;
    private static final int FAULT_BASE = -10;

    private final byte[] text = new byte[TEXT_MOST];
    private int length = 0;
    private int faultAt = NONE;
    // Two islands take turns, so that a text with a fault leaves the one that is told as it was.
    private Island isle = new Island();
    private Island spare = new Island();
    private final Reader reader = new Reader();
    private final Standing now = new Standing();
    private final Standing[] images = {new Standing(), new Standing()};
    private final boolean[] kept = new boolean[IMAGES];
    private final Sayings sayings = new Sayings();
    private final Judge judge = new Judge();

    public SixMaps() {
    }

    // ---- the island

    public int feed(int n, long bytes) {
        if (n < 1 || n > FEED_MOST) {
            return OUTSIDE;
        }
        if (length + n > TEXT_MOST) {
            return FULL;
        }
        for (int i = n - 1; i >= 0; i--) {
            text[length] = (byte) (bytes >>> (8 * i));
            length++;
        }
        return length;
    }

    public int island() {
        int fault = reader.read(text, length, spare);
        length = 0;
        if (fault != 0) {
            faultAt = reader.start;
            return FAULT_BASE - fault;
        }
        faultAt = NONE;
        Island told = spare;
        spare = isle;
        isle = told;
        now.begin(isle.marks);
        sayings.count = 0;
        for (int i = 0; i < IMAGES; i++) {
            kept[i] = false;
        }
        return isle.marks;
    }

    public int fault() {
        return faultAt;
    }

    public int told(int what) {
        switch (what) {
            case 0: return isle.marks;
            case 1: return isle.lies;
            case 2: return isle.within;
            case 3: return isle.goalA;
            case 4: return isle.goalB;
            case 5: return isle.goalC;
            case 6: return isle.price;
            case 7: return isle.prize;
            case 8: return length;
            case 9: return now.spades;
            case 10: return sayings.count;
            case 11: return now.finder;
            default: return OUTSIDE;
        }
    }

    public int mark(int k, int what) {
        if (!isMark(k)) {
            return UNKNOWN;
        }
        if (what < 0 || what > 1) {
            return OUTSIDE;
        }
        return what == 0 ? isle.x[k] : isle.y[k];
    }

    public int map(int m, int k, int what) {
        if (!isBand(m) || !isMark(k)) {
            return UNKNOWN;
        }
        if (what < 0 || what > 1) {
            return OUTSIDE;
        }
        return what == 0 ? isle.mapX[m * MARKS_MOST + k] : isle.mapY[m * MARKS_MOST + k];
    }

    public int leads(int m, int what) {
        if (!isBand(m)) {
            return UNKNOWN;
        }
        if (what < 0 || what >= ENDS) {
            return OUTSIDE;
        }
        if (isle.marks == 0) {
            return NOT;
        }
        int[] row = what < 2 ? isle.mapX : isle.mapY;
        int middle = row[m * MARKS_MOST + isle.goalA] + row[m * MARKS_MOST + isle.goalB]
                - row[m * MARKS_MOST + isle.goalC];
        // Three boxes lead there, and each may be off to the same side.
        int reach = 3 * isle.within;
        return what % 2 == 0 ? middle - reach : middle + reach;
    }

    // ---- what is known

    public int knows(int b, int m) {
        return isBand(b) && isBand(m) ? now.known[b * BANDS + m] : UNKNOWN;
    }

    public int show(int a, int b, int k) {
        if (!areTwoBands(a, b) || !isMark(k)) {
            return UNKNOWN;
        }
        if (now.has(b, a, k)) {
            return NOT;
        }
        now.learn(b, a, k);
        return Integer.bitCount(now.known[b * BANDS + a]);
    }

    public int trade(int a, int k, int b, int j) {
        if (!areTwoBands(a, b) || !isMark(k) || !isMark(j)) {
            return UNKNOWN;
        }
        if (now.has(b, a, k) || now.has(a, b, j)) {
            return NOT;
        }
        now.learn(b, a, k);
        now.learn(a, b, j);
        return 1;
    }

    public int dig(int b, int x, int y) {
        if (!isBand(b)) {
            return UNKNOWN;
        }
        if (x < 0 || x > PLACE_MOST || y < 0 || y > PLACE_MOST) {
            return OUTSIDE;
        }
        if (isle.marks == 0 || now.finder != NONE) {
            return NOT;
        }
        if (now.spades >= SPADES_MOST) {
            return FULL;
        }
        digAt(b, x, y);
        return now.finder == NONE ? 0 : 1;
    }

    public int purse(int b) {
        return isBand(b) ? now.purses[b] : UNKNOWN;
    }

    public int may(int b, int i) {
        if (!isBand(b)) {
            return UNKNOWN;
        }
        judge.weigh(isle, now, b);
        if (i == NONE) {
            return judge.count;
        }
        return i < 0 || i >= judge.count ? NONE : judge.sets[i];
    }

    public int sure(int b, int what) {
        if (!isBand(b)) {
            return UNKNOWN;
        }
        if (what < 0 || what > 1) {
            return OUTSIDE;
        }
        judge.weigh(isle, now, b);
        if (judge.count == 0) {
            return NONE;
        }
        return what == 0 ? judge.inAll() : judge.inNone();
    }

    public int area(int b, int set, int what) {
        if (!isBand(b)) {
            return UNKNOWN;
        }
        if (set < 0 || set > SET_MOST || what < 0 || what >= ENDS) {
            return OUTSIDE;
        }
        // The empty SET MAY LIE without MARKS, but as with leads() nothing leads anywhere then.
        if (isle.marks == 0) {
            return NOT;
        }
        judge.weigh(isle, now, b);
        int i = judge.indexOf(set);
        return i == NONE ? NOT : judge.ends[i * ENDS + what];
    }

    // ---- at best

    public int best(int b, int what) {
        if (!isBand(b)) {
            return UNKNOWN;
        }
        if (what < 0 || what > 3) {
            return OUTSIDE;
        }
        judge.weigh(isle, now, b);
        judge.choosePlace();
        if (judge.digIn == NONE) {
            return NONE;
        }
        switch (what) {
            case 0: return judge.placeX(judge.digIn);
            case 1: return judge.placeY(judge.digIn);
            case 2: return judge.digOf;
            default: return judge.worth();
        }
    }

    public int corner(int b, int c, int k) {
        if (!areTwoBands(b, c) || !isMark(k)) {
            return UNKNOWN;
        }
        if (now.has(b, c, k)) {
            return NOT;
        }
        judge.weigh(isle, now, b);
        return judge.count == 0 ? NOT : judge.leftAtWorst(c, k);
    }

    public int bestCorner(int b, int what) {
        if (!isBand(b)) {
            return UNKNOWN;
        }
        if (what < 0 || what > 2) {
            return OUTSIDE;
        }
        judge.weigh(isle, now, b);
        if (judge.count == 0) {
            return NONE;
        }
        int bestBand = NONE;
        int bestMark = NONE;
        int fewest = NONE;
        for (int c = 0; c < BANDS; c++) {
            for (int k = 0; k < isle.marks; k++) {
                if (now.has(b, c, k)) {
                    continue;
                }
                int left = judge.leftAtWorst(c, k);
                if (fewest == NONE || left < fewest) {
                    fewest = left;
                    bestBand = c;
                    bestMark = k;
                }
            }
        }
        return what == 0 ? bestBand : what == 1 ? bestMark : fewest;
    }

    public int spades(int b) {
        if (!isBand(b)) {
            return UNKNOWN;
        }
        judge.weigh(isle, now, b);
        return judge.unlikePlaces();
    }

    public int found(int b) {
        if (!isBand(b)) {
            return UNKNOWN;
        }
        judge.weighOwnAlone(isle, b);
        if (judge.count == 1) {
            return 0;
        }
        int corners = 0;
        for (int m = 0; m < BANDS; m++) {
            for (int k = 0; k < isle.marks; k++) {
                if (m == b) {
                    continue;
                }
                corners++;
                judge.hear(m, 1 << k);
                if (judge.count == 1) {
                    return corners;
                }
            }
        }
        return NONE;
    }

    // ---- sayings, hunts

    public int say(int b, int m, boolean lies) {
        if (!isBand(b) || !isBand(m)) {
            return UNKNOWN;
        }
        if (sayings.count >= SAYINGS_MOST) {
            return FULL;
        }
        return sayings.add(b, m, lies);
    }

    public int forget() {
        int were = sayings.count;
        sayings.count = 0;
        return were;
    }

    public int saying(int i, int what) {
        if (i < 0 || i >= sayings.count) {
            return UNKNOWN;
        }
        if (what < 0 || what > 1) {
            return OUTSIDE;
        }
        if (what == 0) {
            return sayings.isTrue(i, isle.liars) ? 1 : 0;
        }
        judge.weigh(isle, now, sayings.bands[i]);
        return judge.ofHundred(sayings.maps[i], sayings.lies[i]);
    }

    public int loudest() {
        return sayings.bandOfMostUntrue(isle.liars);
    }

    public int hunt(int n) {
        if (n < 1 || n > DAYS_MOST) {
            return OUTSIDE;
        }
        if (isle.marks == 0 || now.finder != NONE) {
            return NOT;
        }
        for (int day = 0; day < n && now.finder == NONE; day++) {
            for (int b = 0; b < BANDS && now.finder == NONE; b++) {
                takeTurn(b);
            }
        }
        return now.finder;
    }

    // ---- draws, images

    public int seed(int v) {
        if (v < 0) {
            return OUTSIDE;
        }
        int was = now.seed;
        now.seed = v;
        return was;
    }

    public int keep(int i) {
        if (i < 0 || i >= IMAGES) {
            return UNKNOWN;
        }
        images[i].copyFrom(now);
        kept[i] = true;
        return 1;
    }

    public int goBack(int i) {
        if (i < 0 || i >= IMAGES) {
            return UNKNOWN;
        }
        if (!kept[i]) {
            return NOT;
        }
        now.copyFrom(images[i]);
        return 1;
    }

    private static boolean isBand(int b) {
        return b >= 0 && b < BANDS;
    }

    private static boolean areTwoBands(int a, int b) {
        return isBand(a) && isBand(b) && a != b;
    }

    private boolean isMark(int k) {
        return k >= 0 && k < isle.marks;
    }

    private static boolean isIn(int set, int k) {
        return (set >> k & 1) != 0;
    }

    /** Price and prize are paid; a hunt goes on without room for one more spade, so that is asked here. */
    private void digAt(int b, int x, int y) {
        now.purses[b] -= isle.price;
        if (x == isle.soughtX() && y == isle.soughtY()) {
            now.purses[b] += isle.prize;
            now.finder = b;
        } else if (now.spades < SPADES_MOST) {
            now.spadeX[now.spades] = x;
            now.spadeY[now.spades] = y;
            now.spades++;
        }
    }

    private void takeTurn(int b) {
        judge.weigh(isle, now, b);
        judge.choosePlace();
        if (judge.digIn != NONE && judge.worth() > 0) {
            digAt(b, judge.placeX(judge.digIn), judge.placeY(judge.digIn));
        } else {
            tradeByDraws(b);
        }
    }

    private void tradeByDraws(int b) {
        int other = now.draw(BANDS - 1);
        if (other >= b) {
            other++;
        }
        int own = now.draw(isle.marks);
        int others = now.draw(isle.marks);
        now.learn(other, b, own);
        now.learn(b, other, others);
    }

    /** THE ISLAND as it was told, with every MAP as it came out. */
    private static final class Island {
        static final int PRICE_UNTOLD = 10, PRIZE_UNTOLD = 100;

        final int[] x = new int[MARKS_MOST];
        final int[] y = new int[MARKS_MOST];
        final int[] mapX = new int[BANDS * MARKS_MOST];
        final int[] mapY = new int[BANDS * MARKS_MOST];
        int marks = 0;
        int liars = 0;
        int lies = 0;
        int within = 0;
        int goalA = 0;
        int goalB = 0;
        int goalC = 0;
        int price = PRICE_UNTOLD;
        int prize = PRIZE_UNTOLD;

        void clear() {
            marks = 0;
            liars = 0;
            lies = 0;
            within = 0;
            goalA = 0;
            goalB = 0;
            goalC = 0;
            price = PRICE_UNTOLD;
            prize = PRIZE_UNTOLD;
        }

        void addMark(int atX, int atY) {
            if (marks >= MARKS_MOST) {
                return;
            }
            x[marks] = atX;
            y[marks] = atY;
            for (int m = 0; m < BANDS; m++) {
                put(m, marks, atX, atY);
            }
            marks++;
        }

        void addLie(int m, int k, int atX, int atY) {
            put(m, k, atX, atY);
            liars |= 1 << m;
            lies++;
        }

        void put(int m, int k, int atX, int atY) {
            mapX[m * MARKS_MOST + k] = atX;
            mapY[m * MARKS_MOST + k] = atY;
        }

        int soughtX() {
            return x[goalA] + x[goalB] - x[goalC];
        }

        int soughtY() {
            return y[goalA] + y[goalB] - y[goalC];
        }
    }

    /** Reads THE TEXT from left to right, so that the fault it stops at is the first one. */
    private static final class Reader {
        static final int MARK = 0, GOAL = 1, WITHIN = 2, LIE = 3, ERR = 4, SPADE = 5, PRIZE = 6, CLAUSES = 7;
        static final int STRAY = 1, BAD_NUMBER = 2, TOO_OFTEN = 3, CLASH = 4;
        static final int FIGURES_MOST = 4, TOO_BIG = 10000, WITHIN_MOST = 9, PRICE_MOST = 999, PRIZE_MOST = 9999;
        /** An err tells how far off a MARK is by a number that is this much too high. */
        static final int ERR_MIDDLE = 9;

        private static final int[] TIMES_MOST = {9, 1, 1, 2, 30, 1, 1};
        private static final int[] NUMBERS_OF = {2, 3, 1, 4, 4, 1, 1};

        final int[] times = new int[CLAUSES];
        final int[] numbers = new int[4];
        /** SETS of the MARKS that a lie or an err has put on each MAP. */
        final int[] changed = new int[BANDS];
        byte[] text = new byte[0];
        int length = 0;
        int at = 0;
        /** Where the word, NUMBER or sign starts that is read now. */
        int start = 0;

        /** The number of the FAULT, which is at start, or 0. */
        int read(byte[] bytes, int n, Island isle) {
            text = bytes;
            length = Math.min(n, bytes.length);
            at = 0;
            Arrays.fill(times, 0);
            Arrays.fill(changed, 0);
            isle.clear();
            toNext();
            for (int clauses = 0; clauses < TEXT_MOST && at < length; clauses++) {
                int fault = readClause(isle);
                if (fault != 0) {
                    return fault;
                }
                toNext();
            }
            return 0;
        }

        void toNext() {
            while (at < length && text[at] == ' ') {
                at++;
            }
            start = at;
        }

        int readClause(Island isle) {
            int clause = readWord();
            if (clause == NONE || comesTooLate(clause)) {
                return STRAY;
            }
            if (times[clause] >= TIMES_MOST[clause]) {
                return TOO_OFTEN;
            }
            times[clause]++;
            for (int i = 0; i < NUMBERS_OF[clause]; i++) {
                toNext();
                int number = readNumber();
                if (number == NONE) {
                    return STRAY;
                }
                int fault = numberFault(clause, i, number, isle);
                if (fault != 0) {
                    return fault;
                }
                numbers[i] = number;
            }
            toNext();
            if (at >= length || text[at] != ';') {
                return STRAY;
            }
            at++;
            tell(clause, isle);
            return 0;
        }

        int readWord() {
            while (at < length && text[at] >= 'a' && text[at] <= 'z') {
                at++;
            }
            for (int clause = 0; clause < CLAUSES; clause++) {
                if (isSpelt(nameOf(clause))) {
                    return clause;
                }
            }
            return NONE;
        }

        static String nameOf(int clause) {
            switch (clause) {
                case MARK: return "mark";
                case GOAL: return "goal";
                case WITHIN: return "within";
                case LIE: return "lie";
                case ERR: return "err";
                case SPADE: return "spade";
                default: return "prize";
            }
        }

        boolean isSpelt(String name) {
            if (at - start != name.length()) {
                return false;
            }
            for (int i = 0; i < name.length(); i++) {
                if (text[start + i] != name.charAt(i)) {
                    return false;
                }
            }
            return true;
        }

        boolean comesTooLate(int clause) {
            boolean mapsChanged = times[LIE] + times[ERR] > 0;
            if (clause == MARK) {
                return mapsChanged || times[GOAL] > 0;
            }
            return clause == WITHIN && mapsChanged;
        }

        /** NONE, if there is no figure; a NUMBER of too many figures comes as one that is out of all bounds. */
        int readNumber() {
            int value = 0;
            while (at < length && text[at] >= '0' && text[at] <= '9') {
                if (at - start < FIGURES_MOST) {
                    value = value * 10 + (text[at] - '0');
                }
                at++;
            }
            if (at == start) {
                return NONE;
            }
            return at - start > FIGURES_MOST ? TOO_BIG : value;
        }

        int numberFault(int clause, int i, int number, Island isle) {
            switch (clause) {
                case MARK: return above(number, PLACE_MOST);
                case GOAL: return above(number, isle.marks - 1);
                case WITHIN: return above(number, WITHIN_MOST);
                case SPADE: return above(number, PRICE_MOST);
                case PRIZE: return above(number, PRIZE_MOST);
                default: break;
            }
            switch (i) {
                case 0: return mapFault(clause, number, isle);
                case 1: return markFault(number, isle);
                default: break;
            }
            if (clause == ERR) {
                return above(Math.abs(number - ERR_MIDDLE), isle.within);
            }
            return i == 2 ? above(number, PLACE_MOST) : lieFault(number, isle);
        }

        static int above(int number, int most) {
            return number > most ? BAD_NUMBER : 0;
        }

        static int mapFault(int clause, int m, Island isle) {
            if (m >= BANDS) {
                return BAD_NUMBER;
            }
            return clause == LIE && isIn(isle.liars, m) ? CLASH : 0;
        }

        int markFault(int k, Island isle) {
            if (k >= isle.marks) {
                return BAD_NUMBER;
            }
            return isIn(changed[numbers[0]], k) ? CLASH : 0;
        }

        int lieFault(int y, Island isle) {
            if (y > PLACE_MOST) {
                return BAD_NUMBER;
            }
            int k = numbers[1];
            int far = Math.max(Math.abs(numbers[2] - isle.x[k]), Math.abs(y - isle.y[k]));
            return far > 2 * isle.within ? 0 : CLASH;
        }

        void tell(int clause, Island isle) {
            switch (clause) {
                case MARK:
                    isle.addMark(numbers[0], numbers[1]);
                    break;
                case GOAL:
                    isle.goalA = numbers[0];
                    isle.goalB = numbers[1];
                    isle.goalC = numbers[2];
                    break;
                case WITHIN:
                    isle.within = numbers[0];
                    break;
                case SPADE:
                    isle.price = numbers[0];
                    break;
                case PRIZE:
                    isle.prize = numbers[0];
                    break;
                default:
                    changeMap(clause, isle);
                    break;
            }
        }

        void changeMap(int clause, Island isle) {
            int m = numbers[0];
            int k = numbers[1];
            changed[m] |= 1 << k;
            if (clause == LIE) {
                isle.addLie(m, k, numbers[2], numbers[3]);
            } else {
                isle.put(m, k, isle.x[k] + numbers[2] - ERR_MIDDLE, isle.y[k] + numbers[3] - ERR_MIDDLE);
            }
        }
    }

    /** What an IMAGE keeps. */
    private static final class Standing {
        static final long DRAW_TIMES = 1103515245L, DRAW_MORE = 12345L, DRAW_MASK = 0x7FFFFFFFL;
        static final int DRAW_CUT = 65536;

        /** SETS of the MARKS that BAND b KNOWS of MAP m, at b times BANDS and m. */
        final int[] known = new int[BANDS * BANDS];
        final int[] spadeX = new int[SPADES_MOST];
        final int[] spadeY = new int[SPADES_MOST];
        final int[] purses = new int[BANDS];
        int spades = 0;
        int finder = NONE;
        int seed = 0;

        /** THE SEED goes on from island to island. */
        void begin(int marks) {
            Arrays.fill(known, 0);
            Arrays.fill(purses, 0);
            for (int b = 0; b < BANDS; b++) {
                known[b * BANDS + b] = (1 << marks) - 1;
            }
            spades = 0;
            finder = NONE;
        }

        void copyFrom(Standing other) {
            System.arraycopy(other.known, 0, known, 0, known.length);
            System.arraycopy(other.spadeX, 0, spadeX, 0, SPADES_MOST);
            System.arraycopy(other.spadeY, 0, spadeY, 0, SPADES_MOST);
            System.arraycopy(other.purses, 0, purses, 0, BANDS);
            spades = other.spades;
            finder = other.finder;
            seed = other.seed;
        }

        boolean has(int b, int m, int k) {
            return isIn(known[b * BANDS + m], k);
        }

        void learn(int b, int m, int k) {
            known[b * BANDS + m] |= 1 << k;
        }

        int draw(int n) {
            seed = (int) (seed * DRAW_TIMES + DRAW_MORE & DRAW_MASK);
            return n < 1 ? 0 : seed / DRAW_CUT % n;
        }
    }

    private static final class Sayings {
        final int[] bands = new int[SAYINGS_MOST];
        final int[] maps = new int[SAYINGS_MOST];
        final boolean[] lies = new boolean[SAYINGS_MOST];
        int count = 0;

        int add(int b, int m, boolean lie) {
            bands[count] = b;
            maps[count] = m;
            lies[count] = lie;
            count++;
            return count - 1;
        }

        boolean isTrue(int i, int liars) {
            return isIn(liars, maps[i]) == lies[i];
        }

        int untrueOf(int b, int liars) {
            int untrue = 0;
            for (int i = 0; i < count; i++) {
                if (bands[i] == b && !isTrue(i, liars)) {
                    untrue++;
                }
            }
            return untrue;
        }

        int bandOfMostUntrue(int liars) {
            int band = NONE;
            int most = 0;
            for (int b = 0; b < BANDS; b++) {
                int untrue = untrueOf(b, liars);
                if (untrue > most) {
                    most = untrue;
                    band = b;
                }
            }
            return band;
        }
    }

    /** Finds the SETS that MAY LIE for a BAND, each with its AREA; all else is read off these. */
    private static final class Judge {
        /** All places, until a BOX narrows them: no BOX that is tried reaches these ends. */
        static final int ENDLESS = 1000000;
        /** A corner that agrees with no MAP. */
        static final int FAR_OFF = 2000;

        /** SETS of the MARKS KNOWN of each MAP, and where they are on it: its own rows, for a corner is tried in them. */
        final int[] known = new int[BANDS];
        final int[] mapX = new int[BANDS * MARKS_MOST];
        final int[] mapY = new int[BANDS * MARKS_MOST];
        final int[] fromX = new int[MARKS_MOST];
        final int[] toX = new int[MARKS_MOST];
        final int[] fromY = new int[MARKS_MOST];
        final int[] toY = new int[MARKS_MOST];
        final int[] sets = new int[PAIRS];
        final int[] ends = new int[PAIRS * ENDS];
        Island isle = new Island();
        Standing spadesOf = new Standing();
        int spadesHeard = 0;
        int count = 0;
        /** MARKS of which a MAP is KNOWN that is not of the SET. */
        int narrowed = 0;
        /** TO DIG: a SET whose AREA is the PLACE, and of how many SETS it is so. */
        int digIn = NONE;
        int digOf = 0;

        void weigh(Island told, Standing so, int b) {
            takeMaps(told);
            spadesOf = so;
            spadesHeard = so.spades;
            System.arraycopy(so.known, b * BANDS, known, 0, BANDS);
            collect();
        }

        void weighOwnAlone(Island told, int b) {
            takeMaps(told);
            spadesHeard = 0;
            Arrays.fill(known, 0);
            hear(b, (1 << isle.marks) - 1);
        }

        void takeMaps(Island told) {
            isle = told;
            System.arraycopy(told.mapX, 0, mapX, 0, mapX.length);
            System.arraycopy(told.mapY, 0, mapY, 0, mapY.length);
        }

        void hear(int m, int marks) {
            known[m] |= marks;
            collect();
        }

        /** For the BAND that was weighed last. The rows keep the last try, but of a MAP only what is KNOWN is read. */
        int leftAtWorst(int c, int k) {
            int knownOfMap = known[c];
            int most = leftWith(c, k, FAR_OFF, FAR_OFF);
            for (int m = 0; m < BANDS; m++) {
                if (m != c && isIn(known[m], k) && !isTriedAlready(m, c, k)) {
                    int i = m * MARKS_MOST + k;
                    most = Math.max(most, leftWith(c, k, mapX[i], mapY[i]));
                }
            }
            known[c] = knownOfMap;
            return most;
        }

        /** MAPS mostly agree, and a try is dear. */
        boolean isTriedAlready(int m, int c, int k) {
            int i = m * MARKS_MOST + k;
            for (int n = 0; n < m; n++) {
                int j = n * MARKS_MOST + k;
                if (n != c && isIn(known[n], k) && mapX[i] == mapX[j] && mapY[i] == mapY[j]) {
                    return true;
                }
            }
            return false;
        }

        int leftWith(int c, int k, int x, int y) {
            mapX[c * MARKS_MOST + k] = x;
            mapY[c * MARKS_MOST + k] = y;
            known[c] |= 1 << k;
            collect();
            return count;
        }

        void collect() {
            count = 0;
            for (int set = 0; set <= SET_MOST; set++) {
                if (Integer.bitCount(set) == isle.lies && count < PAIRS && mayLie(set)) {
                    sets[count] = set;
                    noteArea(count * ENDS);
                    count++;
                }
            }
        }

        boolean mayLie(int set) {
            if (!arePlacesLeft(set)) {
                return false;
            }
            int steady = set;
            for (int m = 0; m < BANDS; m++) {
                int times = isIn(set, m) ? timesOff(m) : 0;
                if (times > 1) {
                    return false;
                }
                if (times == 1) {
                    steady &= ~(1 << m);
                }
            }
            if (quarrels(set) > Integer.bitCount(steady)) {
                return false;
            }
            for (int m = 0; m < BANDS; m++) {
                if (isIn(steady, m) && !couldBeOff(m)) {
                    return false;
                }
            }
            return !isFelled();
        }

        boolean arePlacesLeft(int set) {
            narrowed = 0;
            for (int k = 0; k < isle.marks; k++) {
                fromX[k] = -ENDLESS;
                toX[k] = ENDLESS;
                fromY[k] = -ENDLESS;
                toY[k] = ENDLESS;
                for (int m = 0; m < BANDS; m++) {
                    if (!isIn(set, m) && isIn(known[m], k)) {
                        narrow(m, k);
                    }
                }
                if (fromX[k] > toX[k] || fromY[k] > toY[k]) {
                    return false;
                }
            }
            return true;
        }

        void narrow(int m, int k) {
            int x = mapX[m * MARKS_MOST + k];
            int y = mapY[m * MARKS_MOST + k];
            fromX[k] = Math.max(fromX[k], x - isle.within);
            toX[k] = Math.min(toX[k], x + isle.within);
            fromY[k] = Math.max(fromY[k], y - isle.within);
            toY[k] = Math.min(toY[k], y + isle.within);
            narrowed |= 1 << k;
        }

        int timesOff(int m) {
            int times = 0;
            for (int k = 0; k < isle.marks; k++) {
                if (isIn(known[m], k) && hasNoPlaceLeft(m, k)) {
                    times++;
                }
            }
            return times;
        }

        boolean hasNoPlaceLeft(int m, int k) {
            int x = mapX[m * MARKS_MOST + k];
            int y = mapY[m * MARKS_MOST + k];
            return x + isle.within < fromX[k] || x - isle.within > toX[k]
                    || y + isle.within < fromY[k] || y - isle.within > toY[k];
        }

        /** A SET has two MAPS at most, so only one pair can quarrel. */
        int quarrels(int set) {
            if (Integer.bitCount(set) < 2) {
                return 0;
            }
            int m = lowestOf(set);
            int n = lowestOf(set & ~(1 << m));
            int marks = 0;
            for (int k = 0; k < isle.marks; k++) {
                if (!isIn(narrowed, k) && isIn(known[m], k) && isIn(known[n], k) && areApart(m, n, k)) {
                    marks++;
                }
            }
            return marks;
        }

        /** The bits below the lowest one are as many as its number; of a SET that is not empty. */
        static int lowestOf(int set) {
            return Integer.bitCount((set & -set) - 1);
        }

        boolean areApart(int m, int n, int k) {
            int i = m * MARKS_MOST + k;
            int j = n * MARKS_MOST + k;
            int reach = 2 * isle.within;
            return Math.abs(mapX[i] - mapX[j]) > reach || Math.abs(mapY[i] - mapY[j]) > reach;
        }

        boolean couldBeOff(int m) {
            for (int k = 0; k < isle.marks; k++) {
                if (!isIn(known[m], k) || !hasAllPlacesLeft(m, k)) {
                    return true;
                }
            }
            return false;
        }

        boolean hasAllPlacesLeft(int m, int k) {
            int x = mapX[m * MARKS_MOST + k];
            int y = mapY[m * MARKS_MOST + k];
            return x - isle.within <= fromX[k] && toX[k] <= x + isle.within
                    && y - isle.within <= fromY[k] && toY[k] <= y + isle.within;
        }

        boolean isFelled() {
            if (!isOnePlace(isle.goalA) || !isOnePlace(isle.goalB) || !isOnePlace(isle.goalC)) {
                return false;
            }
            int x = fromX[isle.goalA] + fromX[isle.goalB] - fromX[isle.goalC];
            int y = fromY[isle.goalA] + fromY[isle.goalB] - fromY[isle.goalC];
            for (int i = 0; i < spadesHeard; i++) {
                if (spadesOf.spadeX[i] == x && spadesOf.spadeY[i] == y) {
                    return true;
                }
            }
            return false;
        }

        boolean isOnePlace(int k) {
            return isIn(narrowed, k) && fromX[k] == toX[k] && fromY[k] == toY[k];
        }

        void noteArea(int i) {
            int a = isle.goalA;
            int b = isle.goalB;
            int c = isle.goalC;
            ends[i] = least(fromX, a) + least(fromX, b) - most(toX, c);
            ends[i + 1] = most(toX, a) + most(toX, b) - least(fromX, c);
            ends[i + 2] = least(fromY, a) + least(fromY, b) - most(toY, c);
            ends[i + 3] = most(toY, a) + most(toY, b) - least(fromY, c);
        }

        int least(int[] from, int k) {
            return isIn(narrowed, k) ? from[k] : 0;
        }

        int most(int[] to, int k) {
            return isIn(narrowed, k) ? to[k] : PLACE_MOST;
        }

        int inAll() {
            int all = SET_MOST;
            for (int i = 0; i < count; i++) {
                all &= sets[i];
            }
            return all;
        }

        int inNone() {
            int none = SET_MOST;
            for (int i = 0; i < count; i++) {
                none &= ~sets[i];
            }
            return none;
        }

        int indexOf(int set) {
            for (int i = 0; i < count; i++) {
                if (sets[i] == set) {
                    return i;
                }
            }
            return NONE;
        }

        boolean isPlace(int i) {
            return ends[i * ENDS] == ends[i * ENDS + 1] && ends[i * ENDS + 2] == ends[i * ENDS + 3];
        }

        int placeX(int i) {
            return ends[i * ENDS];
        }

        int placeY(int i) {
            return ends[i * ENDS + 2];
        }

        boolean areSamePlace(int i, int j) {
            return isPlace(i) && isPlace(j) && placeX(i) == placeX(j) && placeY(i) == placeY(j);
        }

        void choosePlace() {
            digIn = NONE;
            digOf = 0;
            for (int i = 0; i < count; i++) {
                int alike = 0;
                for (int j = 0; j < count; j++) {
                    if (areSamePlace(i, j)) {
                        alike++;
                    }
                }
                if (alike > digOf || alike > 0 && alike == digOf && comesAhead(i, digIn)) {
                    digIn = i;
                    digOf = alike;
                }
            }
        }

        boolean comesAhead(int i, int j) {
            if (placeX(i) != placeX(j)) {
                return placeX(i) < placeX(j);
            }
            return placeY(i) < placeY(j);
        }

        int worth() {
            return count == 0 ? NONE : isle.prize * digOf / count - isle.price;
        }

        int unlikePlaces() {
            int unlike = 0;
            for (int i = 0; i < count; i++) {
                if (!isPlace(i)) {
                    return NONE;
                }
                boolean isNew = true;
                for (int j = 0; j < i; j++) {
                    isNew = isNew && !areSamePlace(i, j);
                }
                unlike += isNew ? 1 : 0;
            }
            return count == 0 ? NONE : unlike;
        }

        int ofHundred(int m, boolean lies) {
            if (count == 0) {
                return NONE;
            }
            int say = 0;
            for (int i = 0; i < count; i++) {
                if (isIn(sets[i], m) == lies) {
                    say++;
                }
            }
            return 100 * say / count;
        }
    }
}
