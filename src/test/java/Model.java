import java.util.ArrayList;
import java.util.Arrays;
import java.util.HashSet;
import java.util.List;
import java.util.Set;
import java.util.TreeMap;
import java.util.TreeSet;

/**
 * The document once more, written another way: places are sets of points that are listed one by one,
 * and a text is cut into tokens first. ModelTests holds SixMaps against it.
 */
final class Model {
    static final int NONE = -1, UNKNOWN = -1000001, OUTSIDE = -1000002, NOT = -1000003, FULL = -1000004;

    record Point(int x, int y) { }

    record Token(int at, char kind, String text) { }

    record Spoken(int band, int map, boolean lies) { }

    static final class Isle {
        List<Point> marks = new ArrayList<>();
        Point[][] maps = new Point[6][9];
        Set<Integer> liars = new TreeSet<>();
        int e = 0, a = 0, b = 0, c = 0, price = 10, prize = 100;
        int lies = 0, errs = 0;
        Set<String> once = new HashSet<>();
        Set<Integer> changed = new HashSet<>();

        Point sought() {
            return lead(marks.get(a), marks.get(b), marks.get(c));
        }
    }

    static final class State {
        boolean[][][] known = new boolean[6][6][9];
        List<Point> spades = new ArrayList<>();
        int[] purses = new int[6];
        int finder = NONE;
        long seed = 0;

        State copy() {
            State s = new State();
            for (int b = 0; b < 6; b++) {
                for (int m = 0; m < 6; m++) {
                    s.known[b][m] = known[b][m].clone();
                }
            }
            s.spades.addAll(spades);
            s.purses = purses.clone();
            s.finder = finder;
            s.seed = seed;
            return s;
        }
    }

    StringBuilder text = new StringBuilder();
    Isle isle = new Isle();
    State state = new State();
    State[] images = new State[2];
    List<Spoken> sayings = new ArrayList<>();
    int faultAt = NONE;

    static Point lead(Point a, Point b, Point c) {
        return new Point(a.x + b.x - c.x, a.y + b.y - c.y);
    }

    static boolean out(int v, int least, int most) {
        return v < least || v > most;
    }

    boolean noBand(int... bands) {
        return Arrays.stream(bands).anyMatch(b -> out(b, 0, 5));
    }

    boolean noMark(int... marks) {
        return Arrays.stream(marks).anyMatch(k -> out(k, 0, isle.marks.size() - 1));
    }

    // ---- the island

    int feed(int n, long bytes) {
        if (out(n, 1, 8)) {
            return OUTSIDE;
        }
        if (text.length() + n > 400) {
            return FULL;
        }
        for (int i = 8 - n; i < 8; i++) {
            text.append((char) (bytes >> (56 - 8 * i) & 255));
        }
        return text.length();
    }

    static List<Token> tokens(String text) {
        List<Token> all = new ArrayList<>();
        int i = 0;
        while (i < text.length()) {
            int j = i;
            while (j < text.length() && text.charAt(j) >= 'a' && text.charAt(j) <= 'z') {
                j++;
            }
            char kind = 'w';
            if (j == i) {
                kind = 'n';
                while (j < text.length() && text.charAt(j) >= '0' && text.charAt(j) <= '9') {
                    j++;
                }
            }
            if (j == i) {
                j = i + 1;
                kind = text.charAt(i);
            }
            if (kind != ' ') {
                all.add(new Token(i, kind == 'w' || kind == 'n' || kind == ';' ? kind : '?', text.substring(i, j)));
            }
            i = j;
        }
        all.add(new Token(text.length(), '$', ""));
        return all;
    }

    int island() {
        String whole = text.toString();
        text.setLength(0);
        Isle fresh = new Isle();
        List<Token> tokens = tokens(whole);
        int t = 0;
        faultAt = NONE;
        while (tokens.get(t).kind != '$') {
            Token word = tokens.get(t);
            int numbers = "mark".equals(word.text) ? 2 : "goal".equals(word.text) ? 3
                    : "lie".equals(word.text) || "err".equals(word.text) ? 4 : 1;
            int fault = wordFault(fresh, word);
            if (fault != 0) {
                return fail(word, fault);
            }
            int[] v = new int[4];
            for (int i = 0; i < numbers; i++) {
                Token number = tokens.get(++t);
                if (number.kind != 'n') {
                    return fail(number, 1);
                }
                v[i] = number.text.length() > 4 ? 99999 : Integer.parseInt(number.text);
                fault = numberFault(fresh, word.text, i, v);
                if (fault != 0) {
                    return fail(number, fault);
                }
            }
            Token end = tokens.get(++t);
            if (end.kind != ';') {
                return fail(end, 1);
            }
            t++;
            apply(fresh, word.text, v);
        }
        isle = fresh;
        long seed = state.seed;
        state = new State();
        state.seed = seed;
        for (int b = 0; b < 6; b++) {
            Arrays.fill(state.known[b][b], 0, isle.marks.size(), true);
        }
        images = new State[2];
        sayings.clear();
        return isle.marks.size();
    }

    int fail(Token token, int fault) {
        faultAt = token.at;
        return -10 - fault;
    }

    static int wordFault(Isle f, Token word) {
        boolean changes = f.lies + f.errs > 0;
        switch (word.kind == 'w' ? word.text : "") {
            case "mark":
                return changes || f.once.contains("goal") ? 1 : f.marks.size() == 9 ? 3 : 0;
            case "within":
                return changes ? 1 : f.once.contains("within") ? 3 : 0;
            case "goal":
            case "spade":
            case "prize":
                return f.once.contains(word.text) ? 3 : 0;
            case "lie":
                return f.lies == 2 ? 3 : 0;
            case "err":
                return f.errs == 30 ? 3 : 0;
            default:
                return 1;
        }
    }

    static int numberFault(Isle f, String word, int i, int[] v) {
        int marks = f.marks.size();
        switch (word + i) {
            case "mark0": case "mark1": case "lie2":
                return v[i] > 99 ? 2 : 0;
            case "goal0": case "goal1": case "goal2":
                return v[i] >= marks ? 2 : 0;
            case "within0":
                return v[i] > 9 ? 2 : 0;
            case "spade0":
                return v[i] > 999 ? 2 : 0;
            case "prize0":
                return v[i] > 9999 ? 2 : 0;
            case "lie0":
                return v[i] > 5 ? 2 : f.liars.contains(v[i]) ? 4 : 0;
            case "err0":
                return v[i] > 5 ? 2 : 0;
            case "lie1": case "err1":
                return v[i] >= marks ? 2 : f.changed.contains(v[0] * 9 + v[1]) ? 4 : 0;
            case "err2": case "err3":
                return v[i] > 18 || v[i] - 9 > f.e || 9 - v[i] > f.e ? 2 : 0;
            default:
                Point at = f.marks.get(v[1]);
                boolean near = !out(v[2], at.x - 2 * f.e, at.x + 2 * f.e) && !out(v[3], at.y - 2 * f.e, at.y + 2 * f.e);
                return v[3] > 99 ? 2 : near ? 4 : 0;
        }
    }

    static void apply(Isle f, String word, int[] v) {
        f.once.add(word);
        switch (word) {
            case "mark":
                for (int m = 0; m < 6; m++) {
                    f.maps[m][f.marks.size()] = new Point(v[0], v[1]);
                }
                f.marks.add(new Point(v[0], v[1]));
                break;
            case "goal":
                f.a = v[0];
                f.b = v[1];
                f.c = v[2];
                break;
            case "within":
                f.e = v[0];
                break;
            case "spade":
                f.price = v[0];
                break;
            case "prize":
                f.prize = v[0];
                break;
            case "lie":
                f.lies++;
                f.liars.add(v[0]);
                f.changed.add(v[0] * 9 + v[1]);
                f.maps[v[0]][v[1]] = new Point(v[2], v[3]);
                break;
            default:
                f.errs++;
                f.changed.add(v[0] * 9 + v[1]);
                f.maps[v[0]][v[1]] = new Point(f.marks.get(v[1]).x + v[2] - 9, f.marks.get(v[1]).y + v[3] - 9);
                break;
        }
    }

    int fault() {
        return faultAt;
    }

    int told(int what) {
        int[] all = {isle.marks.size(), isle.lies, isle.e, isle.a, isle.b, isle.c, isle.price, isle.prize,
            text.length(), state.spades.size(), sayings.size(), state.finder};
        return out(what, 0, 11) ? OUTSIDE : all[what];
    }

    int mark(int k, int what) {
        if (noMark(k)) {
            return UNKNOWN;
        }
        return out(what, 0, 1) ? OUTSIDE : what == 0 ? isle.marks.get(k).x : isle.marks.get(k).y;
    }

    int map(int m, int k, int what) {
        if (noBand(m) || noMark(k)) {
            return UNKNOWN;
        }
        return out(what, 0, 1) ? OUTSIDE : what == 0 ? isle.maps[m][k].x : isle.maps[m][k].y;
    }

    int leads(int m, int what) {
        if (noBand(m)) {
            return UNKNOWN;
        }
        if (out(what, 0, 3)) {
            return OUTSIDE;
        }
        if (isle.marks.isEmpty()) {
            return NOT;
        }
        return ends(box(isle.maps[m][isle.a]), box(isle.maps[m][isle.b]), box(isle.maps[m][isle.c]))[what];
    }

    // ---- places

    Set<Point> box(Point p) {
        Set<Point> all = new HashSet<>();
        for (int x = p.x - isle.e; x <= p.x + isle.e; x++) {
            for (int y = p.y - isle.e; y <= p.y + isle.e; y++) {
                all.add(new Point(x, y));
            }
        }
        return all;
    }

    /** What a set of points tells of the line it is looked at from: least and greatest X, then Y; null is all places. */
    static int[] reach(Set<Point> places) {
        if (places == null) {
            return new int[] {0, 99, 0, 99};
        }
        return new int[] {places.stream().mapToInt(p -> p.x).min().getAsInt(), places.stream().mapToInt(p -> p.x).max().getAsInt(),
            places.stream().mapToInt(p -> p.y).min().getAsInt(), places.stream().mapToInt(p -> p.y).max().getAsInt()};
    }

    static int[] ends(Set<Point> a, Set<Point> b, Set<Point> c) {
        int[] p = reach(a);
        int[] q = reach(b);
        int[] r = reach(c);
        return new int[] {p[0] + q[0] - r[1], p[1] + q[1] - r[0], p[2] + q[2] - r[3], p[3] + q[3] - r[2]};
    }

    /** Of each mark the places left by a set of maps: null for all places. */
    List<Set<Point>> left(boolean[][] known, Point[][] maps, Set<Integer> set) {
        List<Set<Point>> all = new ArrayList<>();
        for (int k = 0; k < isle.marks.size(); k++) {
            Set<Point> places = null;
            for (int m = 0; m < 6; m++) {
                if (known[m][k] && !set.contains(m)) {
                    if (places == null) {
                        places = box(maps[m][k]);
                    } else {
                        places.retainAll(box(maps[m][k]));
                    }
                }
            }
            all.add(places);
        }
        return all;
    }

    static boolean apart(Set<Point> a, Set<Point> b) {
        return a.stream().noneMatch(b::contains);
    }

    boolean mayLie(boolean[][] known, Point[][] maps, Set<Integer> set, List<Point> spades) {
        List<Set<Point>> left = left(known, maps, set);
        int marks = isle.marks.size();
        if (left.stream().anyMatch(p -> p != null && p.isEmpty())) {
            return false;
        }
        Set<Integer> steady = new TreeSet<>(set);
        for (int m : set) {
            int off = 0;
            for (int k = 0; k < marks; k++) {
                off += known[m][k] && left.get(k) != null && apart(box(maps[m][k]), left.get(k)) ? 1 : 0;
            }
            if (off > 1) {
                return false;
            }
            if (off == 1) {
                steady.remove(m);
            }
        }
        int quarrels = 0;
        for (int k = 0; k < marks; k++) {
            boolean quarrel = false;
            for (int m : set) {
                for (int n : set) {
                    quarrel |= left.get(k) == null && known[m][k] && known[n][k] && apart(box(maps[m][k]), box(maps[n][k]));
                }
            }
            quarrels += quarrel ? 1 : 0;
        }
        if (quarrels > steady.size()) {
            return false;
        }
        for (int m : steady) {
            boolean could = false;
            for (int k = 0; k < marks; k++) {
                could |= !known[m][k] || left.get(k) == null || !box(maps[m][k]).containsAll(left.get(k));
            }
            if (!could) {
                return false;
            }
        }
        Point leads = onePlace(left);
        return leads == null || !spades.contains(leads);
    }

    Point onePlace(List<Set<Point>> left) {
        if (left.isEmpty()) {
            return null;
        }
        Point[] p = new Point[3];
        int[] goal = {isle.a, isle.b, isle.c};
        for (int i = 0; i < 3; i++) {
            Set<Point> places = left.get(goal[i]);
            if (places == null || places.size() != 1) {
                return null;
            }
            p[i] = places.iterator().next();
        }
        return lead(p[0], p[1], p[2]);
    }

    static Set<Integer> members(int set) {
        Set<Integer> all = new TreeSet<>();
        for (int m = 0; m < 6; m++) {
            if ((set & 1 << m) != 0) {
                all.add(m);
            }
        }
        return all;
    }

    List<Integer> setsThatMayLie(boolean[][] known, Point[][] maps, List<Point> spades) {
        List<Integer> all = new ArrayList<>();
        for (int set = 0; set < 64; set++) {
            if (members(set).size() == isle.lies && mayLie(known, maps, members(set), spades)) {
                all.add(set);
            }
        }
        return all;
    }

    List<Integer> sets(int b) {
        return setsThatMayLie(state.known[b], isle.maps, state.spades);
    }

    // ---- what is known

    int knows(int b, int m) {
        if (noBand(b, m)) {
            return UNKNOWN;
        }
        int set = 0;
        for (int k = 0; k < 9; k++) {
            set += state.known[b][m][k] ? 1 << k : 0;
        }
        return set;
    }

    int show(int a, int b, int k) {
        if (noBand(a, b) || a == b || noMark(k)) {
            return UNKNOWN;
        }
        if (state.known[b][a][k]) {
            return NOT;
        }
        state.known[b][a][k] = true;
        return Integer.bitCount(knows(b, a));
    }

    int trade(int a, int k, int b, int j) {
        if (noBand(a, b) || a == b || noMark(k, j)) {
            return UNKNOWN;
        }
        if (state.known[b][a][k] || state.known[a][b][j]) {
            return NOT;
        }
        state.known[b][a][k] = true;
        state.known[a][b][j] = true;
        return 1;
    }

    int dig(int b, int x, int y) {
        if (noBand(b)) {
            return UNKNOWN;
        }
        if (out(x, 0, 99) || out(y, 0, 99)) {
            return OUTSIDE;
        }
        if (isle.marks.isEmpty() || state.finder != NONE) {
            return NOT;
        }
        return state.spades.size() == 20 ? FULL : digs(b, new Point(x, y));
    }

    int digs(int b, Point p) {
        state.purses[b] -= isle.price;
        if (p.equals(isle.sought())) {
            state.purses[b] += isle.prize;
            state.finder = b;
            return 1;
        }
        if (state.spades.size() < 20) {
            state.spades.add(p);
        }
        return 0;
    }

    int purse(int b) {
        return noBand(b) ? UNKNOWN : state.purses[b];
    }

    int may(int b, int i) {
        if (noBand(b)) {
            return UNKNOWN;
        }
        List<Integer> sets = sets(b);
        return i == NONE ? sets.size() : out(i, 0, sets.size() - 1) ? NONE : sets.get(i);
    }

    int sure(int b, int what) {
        if (noBand(b)) {
            return UNKNOWN;
        }
        if (out(what, 0, 1)) {
            return OUTSIDE;
        }
        List<Integer> sets = sets(b);
        int answer = 0;
        for (int m = 0; m < 6; m++) {
            int bit = 1 << m;
            long in = sets.stream().filter(s -> (s & bit) != 0).count();
            answer += in == (what == 0 ? sets.size() : 0) ? bit : 0;
        }
        return sets.isEmpty() ? NONE : answer;
    }

    int[] areaEnds(int b, int set) {
        List<Set<Point>> left = left(state.known[b], isle.maps, members(set));
        return left.isEmpty() ? ends(null, null, null) : ends(left.get(isle.a), left.get(isle.b), left.get(isle.c));
    }

    int area(int b, int set, int what) {
        if (noBand(b)) {
            return UNKNOWN;
        }
        if (out(set, 0, 63) || out(what, 0, 3)) {
            return OUTSIDE;
        }
        return isle.marks.isEmpty() || !sets(b).contains(set) ? NOT : areaEnds(b, set)[what];
    }

    // ---- at best

    /** X, Y, how many, worth; null for NONE. */
    int[] toDig(int b) {
        List<Integer> sets = sets(b);
        TreeMap<Integer, TreeMap<Integer, Integer>> byX = new TreeMap<>();
        for (int set : sets) {
            int[] e = areaEnds(b, set);
            if (e[0] == e[1] && e[2] == e[3]) {
                byX.computeIfAbsent(e[0], x -> new TreeMap<>()).merge(e[2], 1, Integer::sum);
            }
        }
        int[] best = null;
        for (int x : byX.keySet()) {
            for (int y : byX.get(x).keySet()) {
                int n = byX.get(x).get(y);
                if (best == null || n > best[2]) {
                    best = new int[] {x, y, n, isle.prize * n / sets.size() - isle.price};
                }
            }
        }
        return best;
    }

    int best(int b, int what) {
        if (noBand(b)) {
            return UNKNOWN;
        }
        if (out(what, 0, 3)) {
            return OUTSIDE;
        }
        int[] best = toDig(b);
        return best == null ? NONE : best[what];
    }

    int corner(int b, int c, int k) {
        if (noBand(b, c) || b == c || noMark(k)) {
            return UNKNOWN;
        }
        return state.known[b][c][k] || sets(b).isEmpty() ? NOT : worst(b, c, k);
    }

    int worst(int b, int c, int k) {
        Set<Point> tries = new HashSet<>();
        tries.add(new Point(2000, 2000));
        for (int m = 0; m < 6; m++) {
            if (state.known[b][m][k]) {
                tries.add(isle.maps[m][k]);
            }
        }
        boolean[][] known = state.copy().known[b];
        known[c][k] = true;
        int most = 0;
        for (Point p : tries) {
            Point[][] maps = new Point[6][];
            for (int m = 0; m < 6; m++) {
                maps[m] = isle.maps[m].clone();
            }
            maps[c][k] = p;
            most = Math.max(most, setsThatMayLie(known, maps, state.spades).size());
        }
        return most;
    }

    int bestCorner(int b, int what) {
        if (noBand(b)) {
            return UNKNOWN;
        }
        if (out(what, 0, 2)) {
            return OUTSIDE;
        }
        int[] best = {NONE, NONE, NONE};
        for (int c = 5; c >= 0; c--) {
            for (int k = isle.marks.size() - 1; k >= 0; k--) {
                int left = corner(b, c, k);
                if (left >= 0 && (best[2] == NONE || left <= best[2])) {
                    best = new int[] {c, k, left};
                }
            }
        }
        return best[what];
    }

    int spades(int b) {
        if (noBand(b)) {
            return UNKNOWN;
        }
        Set<Point> places = new HashSet<>();
        for (int set : sets(b)) {
            int[] e = areaEnds(b, set);
            if (e[0] != e[1] || e[2] != e[3]) {
                return NONE;
            }
            places.add(new Point(e[0], e[2]));
        }
        return places.isEmpty() ? NONE : places.size();
    }

    int found(int b) {
        if (noBand(b)) {
            return UNKNOWN;
        }
        boolean[][] known = new boolean[6][9];
        Arrays.fill(known[b], 0, isle.marks.size(), true);
        for (int corners = 0, at = 0; ; corners++) {
            if (setsThatMayLie(known, isle.maps, List.of()).size() == 1) {
                return corners;
            }
            while (at < 54 && (at / 9 == b || at % 9 >= isle.marks.size())) {
                at++;
            }
            if (at == 54) {
                return NONE;
            }
            known[at / 9][at % 9] = true;
            at++;
        }
    }

    // ---- sayings, hunts

    int say(int b, int m, boolean lies) {
        if (noBand(b, m)) {
            return UNKNOWN;
        }
        if (sayings.size() == 20) {
            return FULL;
        }
        sayings.add(new Spoken(b, m, lies));
        return sayings.size() - 1;
    }

    int forget() {
        int n = sayings.size();
        sayings.clear();
        return n;
    }

    boolean isTrue(Spoken s) {
        return isle.liars.contains(s.map) == s.lies;
    }

    int saying(int i, int what) {
        if (out(i, 0, sayings.size() - 1)) {
            return UNKNOWN;
        }
        if (out(what, 0, 1)) {
            return OUTSIDE;
        }
        Spoken s = sayings.get(i);
        if (what == 0) {
            return isTrue(s) ? 1 : 0;
        }
        List<Integer> sets = sets(s.band);
        long so = sets.stream().filter(set -> members(set).contains(s.map) == s.lies).count();
        return sets.isEmpty() ? NONE : (int) (100 * so / sets.size());
    }

    int loudest() {
        int[] untrue = new int[6];
        sayings.stream().filter(s -> !isTrue(s)).forEach(s -> untrue[s.band]++);
        int most = Arrays.stream(untrue).max().getAsInt();
        for (int b = 0; b < 6; b++) {
            if (most > 0 && untrue[b] == most) {
                return b;
            }
        }
        return NONE;
    }

    int draw(int n) {
        state.seed = (state.seed * 1103515245L + 12345L) % (1L << 31);
        return (int) (state.seed / 65536 % n);
    }

    int hunt(int n) {
        if (out(n, 1, 20)) {
            return OUTSIDE;
        }
        if (isle.marks.isEmpty() || state.finder != NONE) {
            return NOT;
        }
        for (int turn = 0; turn < 6 * n; turn++) {
            int b = turn % 6;
            int[] best = toDig(b);
            if (best != null && best[3] > 0) {
                if (digs(b, new Point(best[0], best[1])) == 1) {
                    return b;
                }
            } else {
                List<Integer> others = new ArrayList<>(List.of(0, 1, 2, 3, 4, 5));
                others.remove(b);
                int c = others.get(draw(5));
                int own = draw(isle.marks.size());
                int other = draw(isle.marks.size());
                state.known[c][b][own] = true;
                state.known[b][c][other] = true;
            }
        }
        return NONE;
    }

    // ---- draws, images

    int seed(int v) {
        if (v < 0) {
            return OUTSIDE;
        }
        int was = (int) state.seed;
        state.seed = v;
        return was;
    }

    int keep(int i) {
        if (out(i, 0, 1)) {
            return UNKNOWN;
        }
        images[i] = state.copy();
        return 1;
    }

    int goBack(int i) {
        if (out(i, 0, 1)) {
            return UNKNOWN;
        }
        if (images[i] == null) {
            return NOT;
        }
        state = images[i].copy();
        return 1;
    }
}
