/** Part 1 of the document's terms, and promises 1 to 6: each sentence that names an edge, at that edge. */
final class PaperEdgesTest {
    private static final int BAD = GoreGlobe.BAD, NOT = GoreGlobe.NOT, NONE = GoreGlobe.NONE;
    private static final int MIN = Integer.MIN_VALUE, MAX = Integer.MAX_VALUE;
    private static final int[] SINES = {0, 2588, 5000, 7071, 8660, 9659, 10000, 9659, 8660, 7071, 5000, 2588,
        0, -2588, -5000, -7071, -8660, -9659, -10000, -9659, -8660, -7071, -5000, -2588};
    private static final int[] COSINES = {10000, 9659, 8660, 7071, 5000, 2588, 0, -2588, -5000, -7071, -8660, -9659,
        -10000, -9659, -8660, -7071, -5000, -2588, 0, 2588, 5000, 7071, 8660, 9659};
    private static final Check CHECK = new Check();

    public static void main(String[] args) {
        rowsAndSteps();
        polesAreOne();
        numbersGoOn();
        sinesAllAround();
        cosinesOfRows();
        widths();
        rowsOnStripsAndCaps();
        xFromStripToStrip();
        twins();
        capsNorthAndSouth();
        backIsBad();
        backRows();
        backEdgesOfStrips();
        backOfLikeOnes();
        backOnCaps();
        backAndForth();
        allPairs();
        straightAtCaps();
        straightFrom23To0();
        worstOfLikeOnes();
        CHECK.end();
    }

    private static void due(String call, long got, long want) {
        CHECK.due(call, got, want);
    }

    private static boolean isStep(int m) {
        return m >= 0 && m <= 23;
    }

    /** "PLACES lie in rows l -6 .. 6 .. m 0 .. 23": whatever is asked of them. */
    private static void rowsAndSteps() {
        int[] ls = {MIN, -7, -6, 6, 7, MAX};
        int[] ms = {MIN, -1, 0, 23, 24, MAX};
        int[] whats = {MIN, -1, 0, 1, 2, 3, 4, 5, MAX};
        for (int a = 0; a < 2 * whats.length; a++) {
            int k = a % 2;
            int what = whats[a / 2];
            GoreGlobe globe = Check.told(60, 12, k);
            for (int i = 0; i < 36; i++) {
                int l = ls[i % 6];
                int m = ms[i / 6];
                boolean isGood = (l == -6 || l == 6) && isStep(m) && what >= 0 && what <= 4;
                String told = l + " " + m + " " + what + ", k " + k;
                due("2: place is BAD, " + told, globe.place(l, m, what) == BAD ? 1 : 0, isGood ? 0 : 1);
                due("3: flat is BAD, " + told, globe.flat(l, m, what) == BAD ? 1 : 0, isGood ? 0 : 1);
            }
        }
    }

    /** "of rows -6 and 6 all are one, the POLE". */
    private static void polesAreOne() {
        for (int l = -6; l <= 6; l += 12) {
            for (int k = 0; k <= 3; k++) {
                GoreGlobe globe = Check.told(60, 4, k);
                due("1: a pole becomes land, once", globe.land(Check.number(l, 0), 1), 1);
                for (int m = 0; m < 24; m++) {
                    due("1: a pole by any m is land", globe.place(l, m, 1), 1);
                    due("1: a pole is on the first strip by any m", globe.place(l, m, 3), k == 0 ? 0 : NONE);
                    due("1: X of a pole by any m", globe.flat(l, m, 0), k == 0 ? 360 : NONE);
                    due("1: Y of a pole by any m", globe.flat(l, m, 1), k > 0 ? NONE : l < 0 ? 0 : 1440);
                    due("1: a pole's twin, on the last strip, by any m", globe.flat(l, m, 2), k == 0 ? 2520 : NONE);
                    due("1: X of a pole on its cap by any m", globe.flat(l, m, 3), k == 0 ? NONE : 120 * k);
                    due("1: Y of a pole on its cap by any m", globe.flat(l, m, 4), k == 0 ? NONE : 120 * k);
                }
            }
        }
    }

    /** "0 the POLE of row -6, 1 and 24 (l and 5) and m together, 265 the POLE of row 6". */
    private static void numbersGoOn() {
        GoreGlobe globe = new GoreGlobe();
        due("1: the south pole", globe.place(-6, 23, 0), 0);
        due("1: the first behind it", globe.place(-5, 0, 0), 1);
        due("1: the last of the first row", globe.place(-5, 23, 0), 24);
        due("1: 0 of the next row", globe.place(-4, 0, 0), 25);
        due("1: the last ahead of row 0", globe.place(-1, 23, 0), 120);
        due("1: the first of row 0", globe.place(0, 0, 0), 121);
        due("1: the last ahead of the north pole", globe.place(5, 23, 0), 264);
        due("1: the north pole", globe.place(6, 0, 0), 265);
    }

    /** "S of m", "C of m is S of m and 6 (less 24, if that's 24 or more)": by the widest caps of each U. */
    private static void sinesAllAround() {
        for (int u = 10; u <= 200; u++) {
            GoreGlobe globe = Check.told(u, 12, 3);
            for (int m = 0; m < 24; m++) {
                String told = " of " + m + ", U " + u;
                due("1: S north" + told, globe.flat(3, m, 3), 6 * u + 6 * u * SINES[m] / 10000);
                due("1: C north" + told, globe.flat(3, m, 4), 6 * u + 6 * u * COSINES[m] / 10000);
                due("1: S south" + told, globe.flat(-3, m, 3), 6 * u - 6 * u * SINES[m] / 10000);
                due("1: C south" + told, globe.flat(-3, m, 4), 6 * u + 6 * u * COSINES[m] / 10000);
            }
        }
    }

    /** "C of a row l is C of l without its sign (10000 in row 0, 0 at the POLES)": by the widest strips. */
    private static void cosinesOfRows() {
        for (int u = 10; u <= 200; u++) {
            GoreGlobe globe = Check.told(u, 2, 0);
            for (int l = 0; l <= 6; l++) {
                int half = 12 * u * COSINES[l] / 10000;
                due("1: C of row " + l + ", U " + u, globe.flat(l, 0, 0), 12 * u - half);
                due("1: C of row -" + l + ", U " + u, globe.flat(-l, 0, 0), 12 * u - half);
                due("1: C of row " + l + ", its twin, U " + u, globe.flat(l, 0, 2), 36 * u + half);
            }
        }
    }

    /** "w is 24 by n"; "a PLACE is on STRIP m by w". */
    private static void widths() {
        int[] widths = {12, 8, 6, 4, 3, 2};
        for (int i = 0; i < 6; i++) {
            GoreGlobe globe = Check.told(60, Check.NUMBERS[i], 1);
            int m = 0;
            for (int g = 0; g < Check.NUMBERS[i]; g++) {
                for (int j = 0; j < widths[i]; j++) {
                    due("1: strip of " + m + " of " + Check.NUMBERS[i], globe.place(0, m, 3), g);
                    m++;
                }
            }
            due("1: strips all around", m, 24);
        }
    }

    /** "rows l, l without its sign 6 less k at most"; "CAPS (k above 0): .. 6 less k at least". */
    private static void rowsOnStripsAndCaps() {
        int[] lastOnStrips = {6, 5, 4, 3};
        int[] firstOnCap = {7, 5, 4, 3};
        for (int k = 0; k <= 3; k++) {
            GoreGlobe globe = Check.told(60, 12, k);
            for (int l = -6; l <= 6; l++) {
                boolean isOnStrips = Math.abs(l) <= lastOnStrips[k];
                boolean isOnCap = Math.abs(l) >= firstOnCap[k];
                String told = ", row " + l + ", k " + k;
                due("1: STRIP" + told, globe.place(l, 5, 3) == NONE ? 0 : 1, isOnStrips ? 1 : 0);
                due("1: CAP" + told, globe.place(l, 5, 4), isOnCap ? 1 : 0);
                due("3: X" + told, globe.flat(l, 5, 0) == NONE ? 0 : 1, isOnStrips ? 1 : 0);
                due("3: Y" + told, globe.flat(l, 5, 1), isOnStrips ? 120 * (l + 6) : NONE);
                due("3: TWIN of a cut one" + told, globe.flat(l, 4, 2) == NONE ? 0 : 1, isOnStrips ? 1 : 0);
                due("3: X on a cap" + told, globe.flat(l, 5, 3) == NONE ? 0 : 1, isOnCap ? 1 : 0);
                due("3: Y on a cap" + told, globe.flat(l, 5, 4) == NONE ? 0 : 1, isOnCap ? 1 : 0);
            }
        }
    }

    /** "Its X is (2 g and 1) w U, and (2 j less w) U C of the row by 10000": cut towards the strip's middle. */
    private static void xFromStripToStrip() {
        GoreGlobe globe = Check.told(10, 2, 0);
        // C 2588: 10 j' 2588 by 10000 for j' 12, 10, 8, 6, 4, 2, 0 is 31, 25, 20, 15, 10, 5, 0.
        int[] off = {-31, -25, -20, -15, -10, -5, 0, 5, 10, 15, 20, 25};
        for (int m = 0; m < 24; m++) {
            due("1: X, row 5, m " + m, globe.flat(5, m, 0), (m < 12 ? 120 : 360) + off[m % 12]);
            due("1: X, row -5, m " + m, globe.flat(-5, m, 0), (m < 12 ? 120 : 360) + off[m % 12]);
            due("1: X, row 0, m " + m, globe.flat(0, m, 0), 20 * m);
        }
        GoreGlobe last = Check.told(200, 12, 1);
        due("1: X of the last strip's middle", last.flat(5, 23, 0), 9200);
        due("1: X of the last strip's west", last.flat(5, 22, 0), 9200 - 103);
        due("1: X of the first strip's west", last.flat(5, 0, 0), 400 - 103);
    }

    /** "If j is 0, it's CUT: it lies on the STRIP ahead, too (of the first that's the last one)". */
    private static void twins() {
        for (int n : Check.NUMBERS) {
            int w = 24 / n;
            GoreGlobe globe = Check.told(10, n, 0);
            for (int m = 0; m < 24; m++) {
                String told = " of " + m + " of " + n;
                boolean isCut = m % w == 0;
                int ahead = m == 0 ? n - 1 : m / w - 1;
                int middle = (2 * ahead + 1) * w * 10;
                due("3: TWIN" + told, globe.flat(4, m, 2), isCut ? middle + 5 * w : NONE);
                due("3: TWIN in row 0" + told, globe.flat(0, m, 2), !isCut ? NONE : m == 0 ? 480 : 20 * m);
            }
        }
    }

    /** "north those above 0, south those below"; "(south: less that)" of X alone. */
    private static void capsNorthAndSouth() {
        GoreGlobe globe = Check.told(100, 12, 1);
        due("1: east, north", globe.flat(5, 6, 3), 400);
        due("1: east, south", globe.flat(-5, 6, 3), 0);
        due("1: west, north", globe.flat(5, 18, 3), 0);
        due("1: west, south", globe.flat(-5, 18, 3), 400);
        due("1: m 0, north", globe.flat(5, 0, 4), 400);
        due("1: m 0, south", globe.flat(-5, 0, 4), 400);
        due("1: m 12, north", globe.flat(5, 12, 4), 0);
        due("1: m 12, south", globe.flat(-5, 12, 4), 0);
        due("1: north, cut towards the middle", globe.flat(5, 13, 3), 200 - 51);
        due("1: south, cut towards the middle", globe.flat(-5, 13, 3), 200 + 51);
        due("1: Y cut towards the middle", globe.flat(-5, 13, 4), 200 - 193);
    }

    /** "X 0 .. 48 U, Y 0 .. 24 U on STRIPS", "X, Y 0 .. 4 U k on a CAP" (k being 0: other than 0 is BAD). */
    private static void backIsBad() {
        for (int u : new int[] {10, 60, 200}) {
            for (int k = 0; k <= 3; k++) {
                GoreGlobe globe = Check.told(u, 6, k);
                for (int paper = 0; paper <= 2; paper++) {
                    int wide = paper == 0 ? 48 * u : 4 * u * k;
                    int high = paper == 0 ? 24 * u : 4 * u * k;
                    String told = "4: paper " + paper + ", U " + u + ", k " + k;
                    CHECK.holds(told + ": 0, 0", globe.back(paper, 0, 0) != BAD);
                    CHECK.holds(told + ": the end", globe.back(paper, wide, high) != BAD);
                    for (int x : new int[] {MIN, -1, wide + 1, MAX}) {
                        due(told + ": X " + x, globe.back(paper, x, 0), BAD);
                        due(told + ": Y 0, X " + x, globe.back(paper, x, high), BAD);
                    }
                    for (int y : new int[] {MIN, -1, high + 1, MAX}) {
                        due(told + ": Y " + y, globe.back(paper, 0, y), BAD);
                        due(told + ": X 0, Y " + y, globe.back(paper, wide, y), BAD);
                    }
                }
                for (int paper : new int[] {MIN, -1, 3, MAX}) {
                    due("4: paper " + paper, globe.back(paper, 0, 0), BAD);
                }
            }
        }
    }

    /** "row: (Y and U) by 2 U, less 6"; "none, if that row isn't on STRIPS". */
    private static void backRows() {
        for (int u : new int[] {10, 11, 200}) {
            for (int k = 0; k <= 3; k++) {
                GoreGlobe globe = Check.told(u, 12, k);
                for (int l = -6; l <= 6; l++) {
                    int y = 2 * u * (l + 6);
                    int place = Math.abs(l) <= 6 - k ? Check.number(l, 1) : NONE;
                    String told = "4: row " + l + ", U " + u + ", k " + k;
                    due(told + ", its first Y", globe.back(0, 2 * u, Math.max(0, y - u)), place);
                    due(told + ", its own Y", globe.back(0, 2 * u, y), place);
                    due(told + ", its last Y", globe.back(0, 2 * u, Math.min(24 * u, y + u - 1)), place);
                }
            }
        }
    }

    /** "X is further from (2 g and 1) w U than w U C of the row by 10000"; "the last STRIP, if it's n". */
    private static void backEdgesOfStrips() {
        for (int n : Check.NUMBERS) {
            int w = 24 / n;
            GoreGlobe globe = Check.told(60, n, 1);
            for (int g = 0; g < n; g++) {
                int middle = (2 * g + 1) * w * 60;
                for (int l = 1; l <= 5; l += 2) {
                    int half = w * 60 * COSINES[l] / 10000;
                    int y = 120 * (l + 6);
                    String told = "4: strip " + g + " of " + n + ", row " + l;
                    due(told + ", west of it", globe.back(0, middle - half - 1, y), NONE);
                    due(told + ", its west", globe.back(0, middle - half, y), Check.number(l, w * g));
                    due(told + ", its east", globe.back(0, middle + half, y), Check.number(l, w * (g + 1) % 24));
                    due(told + ", east of it", globe.back(0, middle + half + 1, y), NONE);
                }
                due("4: row 0, strip " + g + " begins", globe.back(0, 120 * w * g, 720), 121 + w * g);
                due("4: row 0, just west", globe.back(0, Math.max(0, 120 * w * g - 1), 720), 121 + w * g);
            }
            due("4: row 0, the last strip's end is m 0", globe.back(0, 2880, 720), 121);
            due("4: row 0, just west of it", globe.back(0, 2879, 720), 121);
            due("4: row 5, 48 U", globe.back(0, 2880, 1320), NONE);
        }
        GoreGlobe poles = Check.told(10, 12, 0);
        for (int g = 0; g < 12; g++) {
            due("4: the pole, strip " + g, poles.back(0, 40 * g + 20, 240), 265);
            due("4: just west of the pole, strip " + g, poles.back(0, 40 * g + 19, 240), NONE);
            due("4: just east of the south pole, strip " + g, poles.back(0, 40 * g + 21, 0), NONE);
            due("4: the south pole, strip " + g, poles.back(0, 40 * g + 20, 0), 0);
        }
    }

    /** "the closest, of like ones the least": of j on strips, of numbers on caps. */
    private static void backOfLikeOnes() {
        GoreGlobe globe = Check.told(10, 12, 3);
        for (int m = 0; m < 24; m++) {
            due("4: between " + m + " and the next", globe.back(0, 20 * m + 10, 120), 121 + m);
            due("4: closer to the one behind " + m, globe.back(0, 20 * m + 11, 120), 121 + (m + 1) % 24);
            due("4: closer to " + m, globe.back(0, 20 * m + 9, 120), 121 + m);
        }
        for (int l = 3; l <= 5; l++) {
            int y = 60 + 20 * (6 - l);
            due("4: between rows " + l + ", north", globe.back(1, 60, y - 10), Check.number(l, 0));
            due("4: closer to the row above " + l, globe.back(1, 60, y - 11), Check.number(l + 1, 0));
            due("4: between rows -" + l + ", south", globe.back(2, 60, y - 10), Check.number(-l - 1, 0));
            due("4: closer to row -" + l, globe.back(2, 60, y - 9), Check.number(-l, 0));
        }
        // U 10, row 5: m 23 and m 1 lie at X 55 and 65, Y 79, m 0 at X 60, Y 80: of X 60 the three are 5, 5 and 0 off.
        due("4: three beside one another", globe.back(1, 60, 79), Check.number(5, 0));
        // m 1 at 65, 79, m 2 at 70, 77; X 60, Y 60 is the pole.
        due("4: 67, 78 is 2, 1 and 3, 1 off", globe.back(1, 67, 78), Check.number(5, 1));
        due("4: 68, 78 is 3, 1 and 2, 1 off", globe.back(1, 68, 78), Check.number(5, 2));
    }

    /** "Of X, Y 0 .. 4 U k on a CAP"; "none, if k is 0". */
    private static void backOnCaps() {
        for (int u : new int[] {10, 200}) {
            for (int k = 1; k <= 3; k++) {
                GoreGlobe globe = Check.told(u, 12, k);
                int end = 4 * u * k;
                String told = ", U " + u + ", k " + k;
                due("4: 0, 0 north" + told, globe.back(1, 0, 0), Check.number(6 - k, 15));
                due("4: 0, 0 south" + told, globe.back(2, 0, 0), Check.number(k - 6, 9));
                due("4: the end north" + told, globe.back(1, end, end), Check.number(6 - k, 3));
                due("4: the end south" + told, globe.back(2, end, end), Check.number(k - 6, 21));
                due("4: east north" + told, globe.back(1, end, end / 2), Check.number(6 - k, 6));
                due("4: east south" + told, globe.back(2, end, end / 2), Check.number(k - 6, 18));
                due("4: the middle north" + told, globe.back(1, end / 2, end / 2), 265);
                due("4: the middle south" + told, globe.back(2, end / 2, end / 2), 0);
            }
            GoreGlobe none = Check.told(u, 12, 0);
            due("4: no north cap", none.back(1, 0, 0), NONE);
            due("4: no south cap", none.back(2, 0, 0), NONE);
        }
    }

    /** Where a place lies, twice where it is cut, it is found back. */
    private static void backAndForth() {
        for (int n : Check.NUMBERS) {
            for (int k = 0; k <= 3; k++) {
                for (int place = 0; place < 266; place++) {
                    int l = Check.rowOf(place);
                    int m = Check.stepOf(place);
                    GoreGlobe globe = Check.told(n * 10, n, k);
                    String told = "4: place " + place + ", n " + n + ", k " + k;
                    if (Math.abs(l) <= 6 - k) {
                        int y = globe.flat(l, m, 1);
                        due(told, globe.back(0, globe.flat(l, m, 0), y), place);
                        if (m % (24 / n) == 0) {
                            due(told + ", its twin", globe.back(0, globe.flat(l, m, 2), y), place);
                        }
                    }
                    if (k > 0 && Math.abs(l) >= 6 - k) {
                        int paper = l > 0 ? 1 : 2;
                        due(told + ", cap", globe.back(paper, globe.flat(l, m, 3), globe.flat(l, m, 4)), place);
                    }
                }
            }
        }
    }

    /** "PLACES of one m in rows side by side; m and m and 1 (23 and 0) of a row; a POLE and all of the row beside it". */
    private static int farByTheDocument(int one, int other) {
        int l = Check.rowOf(one);
        int otherL = Check.rowOf(other);
        int off = Math.abs(Check.stepOf(one) - Check.stepOf(other));
        if (l == otherL) {
            return Math.abs(l) < 6 && (off == 1 || off == 23) ? 400 * COSINES[Math.abs(l)] / 10000 : NOT;
        }
        boolean isPole = Math.abs(l) == 6 || Math.abs(otherL) == 6;
        return Math.abs(l - otherL) == 1 && (isPole || off == 0) ? 400 : NOT;
    }

    private static void allPairs() {
        for (int one = 0; one < 266; one++) {
            GoreGlobe globe = Check.told(200, 12, 1);
            for (int other = 0; other < 266; other++) {
                due("5: FAR of " + one + ", " + other, globe.pair(one, other, 0), farByTheDocument(one, other));
            }
            for (int other : new int[] {MIN, -1, 266, MAX}) {
                due("5: " + one + " and " + other, globe.pair(one, other, 0), BAD);
                due("5: " + other + " and " + one, globe.pair(other, one, 1), BAD);
            }
            for (int what : new int[] {MIN, -1, 2, MAX}) {
                due("5: what " + what, globe.pair(one, one, what), BAD);
            }
        }
    }

    /** "STRAIGHT, if the rows of both are on STRIPS"; "NONE: a row isn't on STRIPS (1 alone)". */
    private static void straightAtCaps() {
        for (int k = 0; k <= 3; k++) {
            GoreGlobe globe = Check.told(60, 12, k);
            for (int l = 0; l <= 5; l++) {
                for (int sign = -1; sign <= 1; sign += 2) {
                    // m 1 of strips of w 2 lies in their middle, whatever the row.
                    int place = Check.number(sign * l, 1);
                    int beyond = Check.number(sign * (l + 1), 1);
                    String told = ", row " + sign * l + ", k " + k;
                    due("5: STRAIGHT to the next row" + told, globe.pair(place, beyond, 1), l + 1 <= 6 - k ? 120 : NONE);
                    due("5: STRAIGHT from it" + told, globe.pair(beyond, place, 1), l + 1 <= 6 - k ? 120 : NONE);
                    due("5: FAR to it" + told, globe.pair(place, beyond, 0), 120);
                    int aside = 120 * COSINES[l] / 10000;
                    due("5: STRAIGHT in the row" + told, globe.pair(place, place + 1, 1), l <= 6 - k ? aside : NONE);
                    due("5: FAR in the row" + told, globe.pair(place, place + 1, 0), aside);
                }
            }
        }
    }

    /** "of two in a row on that of the western one (the other as if it had the next j)": also 23 and 0. */
    private static void straightFrom23To0() {
        // n 8, U 60, row 5: X from a strip's middle is -46, -15, 15 and, as a twin, 46.
        GoreGlobe globe = Check.told(60, 8, 1);
        int[] straight = {31, 30, 31};
        for (int m = 0; m < 24; m++) {
            int one = Check.number(5, m);
            int next = Check.number(5, (m + 1) % 24);
            due("5: STRAIGHT eastwards of " + m, globe.pair(one, next, 1), straight[m % 3]);
            due("5: STRAIGHT westwards to " + m, globe.pair(next, one, 1), straight[m % 3]);
        }
        // n 2, k 0: a pole is measured on the strip of the other one: j 0 .. 11 are 186 .. 155 off the middle.
        GoreGlobe wide = Check.told(60, 2, 0);
        int[] root = {221, 196, 172, 151, 135, 123, 120, 123, 135, 151, 172, 196};
        for (int m = 0; m < 24; m++) {
            due("5: STRAIGHT of the north pole and " + m, wide.pair(265, 241 + m, 1), root[m % 12]);
            due("5: STRAIGHT of " + m + " and the south pole", wide.pair(1 + m, 0, 1), root[m % 12]);
        }
    }

    private static void worst(String told, GoreGlobe globe, int off, int lesser, int greater) {
        due("6: OFF, " + told, globe.worst(0), off);
        due("6: lesser, " + told, globe.worst(1), lesser);
        due("6: greater, " + told, globe.worst(2), greater);
    }

    /** "OFF: STRAIGHT less FAR, without its sign"; "of like ones the least number first, then the least other one". */
    private static void worstOfLikeOnes() {
        // U 10, w 3: j 1 and 2 of row -2 lie at -8 and 8 of the middle: 16, FAR being 17; all ahead of them are like.
        worst("STRAIGHT being less than FAR", Check.told(10, 8, 3), 1, 74, 75);
        worst("of none the first pair", Check.told(10, 12, 2), 0, 25, 26);
        worst("of all neighbours of a pole the first", Check.told(60, 3, 0), 52, 0, 1);
        for (int what : new int[] {MIN, -1, 3, MAX}) {
            due("6: what " + what, new GoreGlobe().worst(what), BAD);
        }
    }
}
