import java.lang.reflect.Array;
import java.math.BigInteger;
import java.util.ArrayDeque;
import java.util.ArrayList;
import java.util.Arrays;
import java.util.Collections;
import java.util.Deque;
import java.util.List;
import java.util.TreeSet;

/**
 * The document once more, told another way and without regard to speed, to compare GoreGlobe with: ways by
 * relaxing until nothing changes, the odds by all sets of lost strips, texts letter by letter, sheets by
 * Java's own arrays and the exceptions that the machine throws.
 */
final class Model {
    static final int BAD = -1, NOT = -2, FULL = -3, NONE = -4, NULL = -11, CAST = -12, INDEX = -13, SIZE = -14;
    static final int[] NUMBERS = {2, 3, 4, 6, 8, 12};
    private static final Class<?>[] LANES = {byte.class, short.class, int.class, long.class};
    private static final List<TreeSet<Integer>> NEIGHBOURS = neighbours();

    private record State(TreeSet<Integer> land, int u, int n, int k, List<Integer> route, int draw) { }

    private TreeSet<Integer> land = new TreeSet<>();
    private int u = 60;
    private int n = 12;
    private int k = 1;
    private List<Integer> route = new ArrayList<>();
    private int draw = 1;
    private Deque<State> past = new ArrayDeque<>();
    private State imaged;
    private Deque<State> imagedPast;
    private String tape = "";
    private final Object[] sheets = new Object[4];

    // ---- places

    private static int num(int l, int m) {
        if (Math.abs(l) == 6) {
            return l < 0 ? 0 : 265;
        }
        return 1 + 24 * (l + 5) + m;
    }

    private static int row(int p) {
        for (int l = -6; l <= 6; l++) {
            for (int m = 0; m < 24; m++) {
                if (num(l, m) == p) {
                    return l;
                }
            }
        }
        throw new IllegalStateException();
    }

    private static int step(int p) {
        for (int m = 0; m < 24; m++) {
            if (num(row(p), m) == p) {
                return m;
            }
        }
        throw new IllegalStateException();
    }

    private static final int[] ROWS = new int[266];
    private static final int[] STEPS = new int[266];
    static {
        for (int p = 0; p < 266; p++) {
            ROWS[p] = row(p);
            STEPS[p] = step(p);
        }
    }

    private static List<TreeSet<Integer>> neighbours() {
        List<TreeSet<Integer>> all = new ArrayList<>();
        for (int p = 0; p < 266; p++) {
            all.add(new TreeSet<>());
        }
        for (int l = -6; l <= 6; l++) {
            for (int m = 0; m < 24; m++) {
                join(all, num(l, m), num(l, (m + 1) % 24));
                if (l < 6) {
                    join(all, num(l, m), num(l + 1, m));
                }
            }
        }
        return all;
    }

    private static void join(List<TreeSet<Integer>> all, int p, int q) {
        if (p != q) {
            all.get(p).add(q);
            all.get(q).add(p);
        }
    }

    private static int sin(int m) {
        int[] quarter = {0, 2588, 5000, 7071, 8660, 9659, 10000};
        int a = m % 12;
        int v = a <= 6 ? quarter[a] : quarter[12 - a];
        return m >= 12 ? -v : v;
    }

    private static int cos(int m) {
        return sin(m + 6 >= 24 ? m + 6 - 24 : m + 6);
    }

    private static int cosRow(int l) {
        return cos(l < 0 ? -l : l);
    }

    private static boolean isPlace(long l, long m) {
        return -6 <= l && l <= 6 && 0 <= m && m <= 23;
    }

    private static boolean isNum(int p) {
        return 0 <= p && p <= 265;
    }

    private static boolean among(int v, int most) {
        return 0 <= v && v <= most;
    }

    private boolean strip(int l) {
        return Math.abs(l) <= 6 - k;
    }

    private boolean cap(int l) {
        return k > 0 && Math.abs(l) >= 6 - k;
    }

    private int x(int strips, int g, int j, int l) {
        int w = 24 / strips;
        return (2 * g + 1) * w * u + (2 * j - w) * u * cosRow(l) / 10000;
    }

    private int x(int strips, int l, int m) {
        int w = 24 / strips;
        int its = Math.abs(l) == 6 ? 0 : m;
        return x(strips, its / w, its % w, l);
    }

    private int capX(int l, int m) {
        int r = 2 * u * (6 - Math.abs(l));
        int aside = r * sin(m) / 10000;
        return l < 0 ? 2 * u * k - aside : 2 * u * k + aside;
    }

    private int capY(int l, int m) {
        int r = 2 * u * (6 - Math.abs(l));
        return 2 * u * k + r * cos(m) / 10000;
    }

    int place(int l, int m, int what) {
        if (!isPlace(l, m) || !among(what, 4)) {
            return BAD;
        }
        int p = num(l, m);
        return switch (what) {
            case 0 -> p;
            case 1 -> land.contains(p) ? 1 : 0;
            case 2 -> {
                List<TreeSet<Integer>> seas = seas();
                int its = NONE;
                for (int i = 0; i < seas.size(); i++) {
                    if (seas.get(i).contains(p)) {
                        its = i;
                    }
                }
                yield its;
            }
            case 3 -> strip(l) ? STEPS[p] / (24 / n) : NONE;
            default -> cap(l) ? 1 : 0;
        };
    }

    int flat(int l, int m, int what) {
        if (!isPlace(l, m) || !among(what, 4)) {
            return BAD;
        }
        if (what < 3 && !strip(l) || what > 2 && !cap(l)) {
            return NONE;
        }
        int w = 24 / n;
        int its = STEPS[num(l, m)];
        return switch (what) {
            case 0 -> x(n, l, its);
            case 1 -> 2 * u * (l + 6);
            case 2 -> its % w == 0 ? x(n, (its / w + n - 1) % n, w, l) : NONE;
            case 3 -> capX(l, its);
            default -> capY(l, its);
        };
    }

    int back(int paper, int x, int y) {
        if (!among(paper, 2)) {
            return BAD;
        }
        if (paper == 0 ? !among(x, 48 * u) || !among(y, 24 * u) : !among(x, 4 * u * k) || !among(y, 4 * u * k)) {
            return BAD;
        }
        return paper == 0 ? backOnStrips(x, y) : backOnCap(paper == 1, x, y);
    }

    private int backOnStrips(int x, int y) {
        int w = 24 / n;
        int l = (y + u) / (2 * u) - 6;
        int g = x / (2 * w * u);
        if (g == n) {
            g = n - 1;
        }
        if (!strip(l) || Math.abs(x - (2 * g + 1) * w * u) > w * u * cosRow(l) / 10000) {
            return NONE;
        }
        List<Integer> offs = new ArrayList<>();
        for (int j = 0; j <= w; j++) {
            offs.add(Math.abs(x(n, g, j, l) - x));
        }
        int j = offs.indexOf(Collections.min(offs));
        return num(l, (g * w + j) % 24);
    }

    private int backOnCap(boolean north, int x, int y) {
        int best = NONE;
        long least = Long.MAX_VALUE;
        for (int p = 0; p < 266; p++) {
            int l = ROWS[p];
            if (cap(l) && (l > 0) == north) {
                long dx = x - capX(l, STEPS[p]);
                long dy = y - capY(l, STEPS[p]);
                if (dx * dx + dy * dy < least) {
                    least = dx * dx + dy * dy;
                    best = p;
                }
            }
        }
        return best;
    }

    private int far(int p, int q) {
        return ROWS[p] == ROWS[q] ? 2 * u * cosRow(ROWS[p]) / 10000 : 2 * u;
    }

    private int straight(int p, int q) {
        int w = 24 / n;
        if (ROWS[p] == ROWS[q]) {
            int west = (STEPS[p] + 1) % 24 == STEPS[q] ? STEPS[p] : STEPS[q];
            int l = ROWS[p];
            return x(n, west / w, west % w + 1, l) - x(n, west / w, west % w, l);
        }
        int m = p == 0 || p == 265 ? STEPS[q] : STEPS[p];
        long dx = x(n, m / w, m % w, ROWS[p]) - x(n, m / w, m % w, ROWS[q]);
        long dy = 2L * u;
        return BigInteger.valueOf(dx * dx + dy * dy).sqrt().intValueExact();
    }

    int pair(int one, int other, int what) {
        if (!isNum(one) || !isNum(other) || !among(what, 1)) {
            return BAD;
        }
        if (!NEIGHBOURS.get(one).contains(other)) {
            return NOT;
        }
        if (what == 0) {
            return far(one, other);
        }
        return strip(ROWS[one]) && strip(ROWS[other]) ? straight(one, other) : NONE;
    }

    int worst(int what) {
        if (!among(what, 2)) {
            return BAD;
        }
        int[] best = {-1, 0, 0};
        for (int p = 0; p < 266; p++) {
            for (int q : NEIGHBOURS.get(p).tailSet(p)) {
                if (strip(ROWS[p]) && strip(ROWS[q])) {
                    int off = Math.abs(straight(p, q) - far(p, q));
                    if (off > best[0]) {
                        best = new int[] {off, p, q};
                    }
                }
            }
        }
        return best[what];
    }

    // ---- ways

    private List<TreeSet<Integer>> seas() {
        List<TreeSet<Integer>> seas = new ArrayList<>();
        TreeSet<Integer> open = new TreeSet<>();
        for (int p = 0; p < 266; p++) {
            open.add(p);
        }
        open.removeAll(land);
        while (!open.isEmpty()) {
            TreeSet<Integer> sea = new TreeSet<>();
            Deque<Integer> edge = new ArrayDeque<>();
            edge.push(open.pollFirst());
            while (!edge.isEmpty()) {
                int p = edge.pop();
                sea.add(p);
                for (int q : NEIGHBOURS.get(p)) {
                    if (open.remove(q)) {
                        edge.push(q);
                    }
                }
            }
            seas.add(sea);
        }
        return seas;
    }

    /** FAR and steps of the shortest ways to a place from all; null: no way. */
    private int[][] waysTo(int to) {
        int[][] best = new int[266][];
        if (land.contains(to)) {
            return best;
        }
        best[to] = new int[] {0, 0};
        boolean changed = true;
        while (changed) {
            changed = false;
            for (int p = 0; p < 266; p++) {
                if (land.contains(p)) {
                    continue;
                }
                for (int q : NEIGHBOURS.get(p)) {
                    if (best[q] == null) {
                        continue;
                    }
                    int[] by = {best[q][0] + far(p, q), best[q][1] + 1};
                    if (best[p] == null || Arrays.compare(by, best[p]) < 0) {
                        best[p] = by;
                        changed = true;
                    }
                }
            }
        }
        return best;
    }

    int way(int from, int to, int what) {
        if (!isNum(from) || !isNum(to) || !among(what, 2)) {
            return BAD;
        }
        int[][] best = waysTo(to);
        if (best[from] == null) {
            return NONE;
        }
        if (what < 2) {
            return best[from][what];
        }
        for (int q : NEIGHBOURS.get(from)) {
            if (best[q] != null && best[q][0] + far(from, q) == best[from][0] && best[q][1] + 1 == best[from][1]) {
                return q;
            }
        }
        return NONE;
    }

    int sea(int i, int what) {
        List<TreeSet<Integer>> seas = seas();
        if (!among(i, seas.size() - 1) || !among(what, 2)) {
            return BAD;
        }
        TreeSet<Integer> sea = seas.get(i);
        return what == 0 ? sea.size() : what == 1 ? sea.first() : sea.last();
    }

    int stop(int i) {
        return i < 0 ? BAD : i < route.size() ? route.get(i) : NONE;
    }

    int route(int what) {
        return what == 0 ? route.size() : what == 1 ? length() : BAD;
    }

    private int length() {
        int sum = 0;
        for (int i = 0; i + 1 < route.size(); i++) {
            int[] way = waysTo(route.get(i + 1))[route.get(i)];
            if (way == null) {
                return NONE;
            }
            sum += way[0];
        }
        return sum;
    }

    int rolled(int v, int what) {
        if (v < 1 || v > 10000 || !among(what, 1)) {
            return BAD;
        }
        int length = length();
        return length == NONE ? NONE : what == 0 ? length / v : length % v;
    }

    long lost(int c, int what) {
        if (!among(c, 10) || !among(what, 1)) {
            return BAD;
        }
        int w = 24 / n;
        TreeSet<Integer> wanted = new TreeSet<>();
        for (int p : land) {
            if (strip(ROWS[p])) {
                int g = STEPS[p] / w;
                int on = 1 << g;
                if (STEPS[p] % w == 0) {
                    on |= 1 << (g + n - 1) % n;
                }
                wanted.add(p == 0 || p == 265 ? (1 << n) - 1 : on);
            }
        }
        BigInteger good = BigInteger.ZERO;
        for (int left = 0; left < 1 << n; left++) {
            boolean all = true;
            for (int on : wanted) {
                all &= (on & left) != 0;
            }
            if (all) {
                int kept = Integer.bitCount(left);
                good = good.add(BigInteger.valueOf(10 - c).pow(kept).multiply(BigInteger.valueOf(c).pow(n - kept)));
            }
        }
        BigInteger below = BigInteger.TEN.pow(n);
        BigInteger common = good.gcd(below);
        return (what == 0 ? good : below).divide(common).longValueExact();
    }

    int count(int what) {
        return switch (what) {
            case 0 -> u;
            case 1 -> n;
            case 2 -> k;
            case 3 -> land.size();
            case 4 -> seas().size();
            case 5 -> (int) land.stream().filter(p -> strip(ROWS[p])).count();
            case 6 -> past.size();
            default -> BAD;
        };
    }

    // ---- what is done

    private State state() {
        return new State(new TreeSet<>(land), u, n, k, new ArrayList<>(route), draw);
    }

    private void become(State s) {
        land = new TreeSet<>(s.land);
        u = s.u;
        n = s.n;
        k = s.k;
        route = new ArrayList<>(s.route);
        draw = s.draw;
    }

    private void keep() {
        past.push(state());
        if (past.size() > 6) {
            past.removeLast();
        }
    }

    private void flip(int p) {
        if (!land.remove(p)) {
            land.add(p);
        }
    }

    int land(int p, int v) {
        if (!isNum(p) || !among(v, 1)) {
            return BAD;
        }
        if (land.contains(p) == (v == 1)) {
            return NOT;
        }
        keep();
        flip(p);
        return land.size();
    }

    int tell(int what, int v) {
        boolean good = what == 0 && 10 <= v && v <= 200 || what == 1 && Arrays.binarySearch(NUMBERS, v) >= 0
            || what == 2 && among(v, 3);
        if (!good) {
            return BAD;
        }
        int was = count(what);
        if (was == v) {
            return NOT;
        }
        keep();
        u = what == 0 ? v : u;
        n = what == 1 ? v : n;
        k = what == 2 ? v : k;
        return was;
    }

    int add(int p) {
        if (!isNum(p)) {
            return BAD;
        }
        if (route.size() == 8) {
            return FULL;
        }
        keep();
        route.add(p);
        return route.size();
    }

    int out(int p) {
        if (!isNum(p)) {
            return BAD;
        }
        int times = Collections.frequency(route, p);
        if (times == 0) {
            return NONE;
        }
        keep();
        route.removeIf(q -> q == p);
        return times;
    }

    int reverse() {
        if (route.size() < 2) {
            return NOT;
        }
        keep();
        Collections.reverse(route);
        return route.get(0);
    }

    int type(int letter) {
        if (letter < 32 || letter > 126) {
            return BAD;
        }
        if (tape.length() == 90) {
            return FULL;
        }
        tape += (char) letter;
        return tape.length();
    }

    int read() {
        String text = tape;
        tape = "";
        TreeSet<Integer> told = new TreeSet<>();
        int fault = understand(text, told);
        if (fault >= 0) {
            return -20 - fault;
        }
        keep();
        land = told;
        return land.size();
    }

    /** What may stand next, letter by letter: 0 a row's - or figure, 1 its figure, 2 its colon, 3 a number,
     * 4 behind a first number, 5 a second number, 6 behind that. */
    private static int understand(String text, TreeSet<Integer> told) {
        int state = 0;
        int sign = 1;
        int l = 0;
        int first = 0;
        for (int i = 0; i < text.length(); i++) {
            char c = text.charAt(i);
            if (c == ' ') {
                continue;
            }
            boolean figure = Character.isDigit(c);
            if ((state == 0 || state == 1) && c >= '0' && c <= '6') {
                l = sign * (c - '0');
                state = 2;
            } else if (state == 0 && c == '-') {
                sign = -1;
                state = 1;
            } else if (state == 2 && c == ':') {
                state = 3;
            } else if ((state == 3 || state == 5) && figure) {
                boolean two = i + 1 < text.length() && Character.isDigit(text.charAt(i + 1));
                int v = Integer.parseInt(text.substring(i, two ? i + 2 : i + 1));
                if (v > 23) {
                    return i;
                }
                first = state == 3 ? v : first;
                for (int m = first;; m = (m + 1) % 24) {
                    told.add(num(l, m));
                    if (m == v) {
                        break;
                    }
                }
                state++;
                i += two ? 1 : 0;
            } else if (state == 4 && c == '-') {
                state = 5;
            } else if ((state == 4 || state == 6) && c == ',') {
                state = 3;
            } else if ((state == 4 || state == 6) && c == ';') {
                state = 0;
                sign = 1;
            } else {
                return i;
            }
        }
        return state == 4 || state == 6 ? -1 : text.length();
    }

    int drift(int turns) {
        if (turns < 1 || turns > 40) {
            return BAD;
        }
        for (int i = 0; i < turns; i++) {
            keep();
            draw = (int) ((draw * 1103515245L + 12345) % (1L << 31));
            flip((draw >> 16) % 266);
        }
        return land.size();
    }

    int undo() {
        if (past.isEmpty()) {
            return NONE;
        }
        become(past.pop());
        return past.size();
    }

    int seed(int v) {
        if (v < 0) {
            return BAD;
        }
        int was = draw;
        draw = v;
        return was;
    }

    int image() {
        imaged = state();
        imagedPast = new ArrayDeque<>(past);
        return 1;
    }

    int restore() {
        if (imaged == null) {
            return NONE;
        }
        become(imaged);
        past = new ArrayDeque<>(imagedPast);
        return 1;
    }

    // ---- sheets

    private Object taken(int sheet, int lane) {
        if (sheets[sheet] == null) {
            throw new NullPointerException();
        }
        if (sheets[sheet].getClass().getComponentType() != LANES[lane]) {
            throw new ClassCastException();
        }
        return sheets[sheet];
    }

    private static void put(Object row, int i, long v) {
        if (row instanceof byte[] b) {
            b[i] = (byte) v;
        } else if (row instanceof short[] s) {
            s[i] = (short) v;
        } else if (row instanceof int[] t) {
            t[i] = (int) v;
        } else {
            ((long[]) row)[i] = v;
        }
    }

    private static int answer(RuntimeException e) {
        if (e instanceof NullPointerException) {
            return NULL;
        }
        return e instanceof ClassCastException ? CAST : e instanceof IndexOutOfBoundsException ? INDEX : SIZE;
    }

    int seen(int sheet, int lane, int i, int times) {
        if (!among(sheet, 3) || !among(lane, 3) || times < 1 || times > 8) {
            return BAD;
        }
        long[] told = new long[3 * times];
        try {
            Object row = taken(sheet, lane);
            for (int a = 0; a < told.length; a++) {
                told[a] = Array.getLong(row, i + a);
            }
        } catch (RuntimeException e) {
            return answer(e);
        }
        for (int a = 0; a < told.length; a += 3) {
            if (!isPlace(told[a], told[a + 1])) {
                return NOT;
            }
        }
        int set = 0;
        for (int bit = 0; bit < 6; bit++) {
            boolean all = true;
            for (int a = 0; a < told.length; a += 3) {
                all &= x(NUMBERS[bit], (int) told[a], (int) told[a + 1]) == told[a + 2];
            }
            set += all ? 1 << bit : 0;
        }
        return set;
    }

    int film(int l, int sheet, int lane, int i) {
        if (!isPlace(l, 0) || !among(sheet, 3) || !among(lane, 3)) {
            return BAD;
        }
        if (!strip(l)) {
            return NOT;
        }
        try {
            Object row = taken(sheet, lane);
            Array.getLong(row, i);
            Array.getLong(row, i + 23);
            for (int m = 0; m < 24; m++) {
                put(row, i + m, x(n, l, m));
            }
        } catch (RuntimeException e) {
            return answer(e);
        }
        return 24;
    }

    int sheet(int sheet, int lane, int items) {
        if (!among(sheet, 3) || !among(lane, 3) || items > 30) {
            return BAD;
        }
        try {
            sheets[sheet] = Array.newInstance(LANES[lane], items);
        } catch (RuntimeException e) {
            return answer(e);
        }
        return items;
    }

    int drop(int sheet) {
        if (!among(sheet, 3)) {
            return BAD;
        }
        if (sheets[sheet] == null) {
            return NULL;
        }
        int had = Array.getLength(sheets[sheet]);
        sheets[sheet] = null;
        return had;
    }

    int item(int sheet, int lane, int i, long v) {
        if (!among(sheet, 3) || !among(lane, 3)) {
            return BAD;
        }
        try {
            put(taken(sheet, lane), i, v);
        } catch (RuntimeException e) {
            return answer(e);
        }
        return 1;
    }

    int copy(int from, int i, int to, int j, int items) {
        if (!among(from, 3) || !among(to, 3)) {
            return BAD;
        }
        try {
            if (sheets[from] != null && sheets[to] != null && sheets[from].getClass() != sheets[to].getClass()) {
                return CAST;
            }
            System.arraycopy(sheets[from], i, sheets[to], j, items);
        } catch (RuntimeException e) {
            return answer(e);
        }
        return items;
    }
}
