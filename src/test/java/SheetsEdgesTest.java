/** SEEN of part 3, and promises 26 to 31: each sentence that names an edge, at that edge. */
final class SheetsEdgesTest {
    private static final int BAD = GoreGlobe.BAD, NOT = GoreGlobe.NOT;
    private static final int NULL = GoreGlobe.NULL, CAST = GoreGlobe.CAST, INDEX = GoreGlobe.INDEX, SIZE = GoreGlobe.SIZE;
    private static final int MIN = Integer.MIN_VALUE, MAX = Integer.MAX_VALUE;
    private static final int[] OFF = {MIN, -1, 4, MAX};
    private static final Check CHECK = new Check();

    public static void main(String[] args) {
        nothingAtFirst();
        sheetsOfEachSize();
        newRowsAreNew();
        dropIsNothingThen();
        sheetsAndLanesAreBad();
        itemOfEachIndex();
        lowestBits();
        itemsAreOfTheirLaneAlone();
        seenTimes();
        seenFromEachItem();
        seenNoPlace();
        seenAnyX();
        seenBits();
        seenOfPoles();
        seenWithoutCaps();
        seenNotOfTwins();
        filmFromEachItem();
        filmOfEachRow();
        filmLowestBits();
        copyOfNone();
        copyOfAll();
        copyOverItself();
        copyIsOfItsOwn();
        CHECK.end();
    }

    private static void due(String call, long got, long want) {
        CHECK.due(call, got, want);
    }

    private static void put(GoreGlobe globe, int sheet, int lane, int i, long... items) {
        for (int a = 0; a < items.length; a++) {
            due("30: item " + (i + a), globe.item(sheet, lane, i + a, items[a]), 1);
        }
    }

    /** Whether item i of sheet 0 is 0, told by SEEN: there is no other way to look at an item. */
    private static boolean isZero(GoreGlobe globe, int lane, int i) {
        globe.sheet(3, lane, 3);
        globe.copy(0, i, 3, 2, 1);
        return globe.seen(3, lane, 0, 1) == 63;
    }

    /** "sheets 0 .. 3: nothing (at first)". */
    private static void nothingAtFirst() {
        GoreGlobe globe = new GoreGlobe();
        for (int sheet = 0; sheet < 4; sheet++) {
            for (int lane = 0; lane < 4; lane++) {
                due("26: of nothing", globe.seen(sheet, lane, 0, 1), NULL);
                due("27: to nothing", globe.film(0, sheet, lane, 0), NULL);
                due("30: of nothing", globe.item(sheet, lane, 0, 0), NULL);
                due("31: from and to nothing", globe.copy(sheet, 0, lane, 0, 0), NULL);
            }
            due("29: nothing", globe.drop(sheet), NULL);
        }
    }

    /** "of 0 to 30 items"; "BAD: also n above 30; SIZE: n below 0". */
    private static void sheetsOfEachSize() {
        for (int lane = 0; lane < 4; lane++) {
            for (int n = 0; n <= 30; n++) {
                GoreGlobe globe = new GoreGlobe();
                int sheet = n % 4;
                due("28: n " + n, globe.sheet(sheet, lane, n), n);
                due("30: behind the last of " + n, globe.item(sheet, lane, n, 1), INDEX);
                if (n > 0) {
                    due("30: the last of " + n, globe.item(sheet, lane, n - 1, 1), 1);
                }
                due("29: n " + n, globe.drop(sheet), n);
            }
            GoreGlobe globe = new GoreGlobe();
            for (int n : new int[] {31, 32, 1000, MAX}) {
                due("28: n " + n, globe.sheet(0, lane, n), BAD);
            }
            for (int n : new int[] {-1, -2, -1000, MIN}) {
                due("28: n " + n, globe.sheet(0, lane, n), SIZE);
            }
            due("28: it holds nothing by that", globe.drop(0), NULL);
            globe.sheet(0, lane, 30);
            globe.sheet(0, lane, 31);
            globe.sheet(0, lane, -1);
            due("28: what it held is there by that", globe.drop(0), 30);
        }
    }

    private static void newRowsAreNew() {
        for (int lane = 0; lane < 4; lane++) {
            GoreGlobe globe = new GoreGlobe();
            globe.sheet(0, lane, 30);
            for (int i = 0; i < 30; i++) {
                CHECK.holds("28: item " + i + " is 0 at first", isZero(globe, lane, i));
                globe.item(0, lane, i, 9);
            }
            CHECK.holds("28: not 0 then", !isZero(globe, lane, 29));
            globe.sheet(0, (lane + 1) % 4, 30);
            for (int i = 0; i < 30; i++) {
                CHECK.holds("28: item " + i + " is 0 in a new row", isZero(globe, (lane + 1) % 4, i));
            }
            globe.item(0, (lane + 1) % 4, 7, 9);
            globe.drop(0);
            globe.sheet(0, (lane + 1) % 4, 8);
            CHECK.holds("28: 0 in a new row behind nothing", isZero(globe, (lane + 1) % 4, 7));
        }
    }

    private static void dropIsNothingThen() {
        for (int lane = 0; lane < 4; lane++) {
            GoreGlobe globe = new GoreGlobe();
            for (int sheet = 0; sheet < 4; sheet++) {
                globe.sheet(sheet, lane, 24 + sheet);
            }
            due("29: how many", globe.drop(2), 26);
            due("29: nothing then", globe.drop(2), NULL);
            due("30: nothing then", globe.item(2, lane, 0, 1), NULL);
            due("26: nothing then", globe.seen(2, lane, 0, 1), NULL);
            due("27: nothing then", globe.film(0, 2, lane, 0), NULL);
            due("31: nothing then", globe.copy(2, 0, 1, 0, 1), NULL);
            due("31: nothing then", globe.copy(1, 0, 2, 0, 1), NULL);
            due("29: the others stay", globe.drop(0), 24);
            due("29: the others stay", globe.drop(1), 25);
            due("29: the others stay", globe.drop(3), 27);
        }
    }

    private static void sheetsAndLanesAreBad() {
        GoreGlobe globe = new GoreGlobe();
        for (int sheet = 0; sheet < 4; sheet++) {
            globe.sheet(sheet, 2, 30);
        }
        for (int off : OFF) {
            due("26: sheet " + off, globe.seen(off, 2, 0, 1), BAD);
            due("26: lane " + off, globe.seen(0, off, 0, 1), BAD);
            due("27: sheet " + off, globe.film(0, off, 2, 0), BAD);
            due("27: lane " + off, globe.film(0, 0, off, 0), BAD);
            due("28: sheet " + off, globe.sheet(off, 2, 1), BAD);
            due("28: lane " + off, globe.sheet(0, off, 1), BAD);
            due("29: sheet " + off, globe.drop(off), BAD);
            due("30: sheet " + off, globe.item(off, 2, 0, 1), BAD);
            due("30: lane " + off, globe.item(0, off, 0, 1), BAD);
            due("31: from " + off, globe.copy(off, 0, 0, 0, 1), BAD);
            due("31: to " + off, globe.copy(0, 0, off, 0, 1), BAD);
        }
        for (int l : new int[] {MIN, -7, 7, MAX}) {
            due("27: row " + l, globe.film(l, 0, 2, 0), BAD);
        }
        for (int n : new int[] {MIN, -1, 0, 9, MAX}) {
            due("26: n " + n, globe.seen(0, 2, 0, n), BAD);
        }
    }

    private static void itemOfEachIndex() {
        for (int n = 0; n <= 30; n += 5) {
            GoreGlobe globe = new GoreGlobe();
            globe.sheet(1, 3, n);
            for (int i = -2; i <= 32; i++) {
                due("30: item " + i + " of " + n, globe.item(1, 3, i, i), i >= 0 && i < n ? 1 : INDEX);
            }
            due("30: least", globe.item(1, 3, MIN, 1), INDEX);
            due("30: greatest", globe.item(1, 3, MAX, 1), INDEX);
        }
    }

    /** What v is in a lane: an X that SEEN takes as it is. U 200, n 2: row 0, m 0 .. 23 lie at 0 .. 9200. */
    private static void becomes(int lane, long v, int x) {
        GoreGlobe globe = Check.told(200, 2, 1);
        globe.sheet(0, lane, 3);
        int m = x / 400;
        put(globe, 0, lane, 0, 0, m, v);
        due("30: " + v + " in lane " + lane + " is " + x, globe.seen(0, lane, 0, 1), x % 400 == 0 ? 63 : 0);
    }

    private static void unlike(int lane, long v, int x) {
        GoreGlobe globe = Check.told(200, 2, 1);
        globe.sheet(0, lane, 3);
        put(globe, 0, lane, 0, 0, x / 400, v);
        due("30: " + v + " in lane " + lane + " isn't " + x, globe.seen(0, lane, 0, 1), 0);
    }

    /** "becomes v, its lowest bits"; "(all with a sign)". */
    private static void lowestBits() {
        long[] beyond = {1L << 8, 1L << 16, 1L << 32};
        for (int lane = 0; lane < 3; lane++) {
            long by = beyond[lane];
            becomes(lane, by, 0);
            becomes(lane, -by, 0);
            becomes(lane, 3 * by, 0);
            becomes(lane, Long.MIN_VALUE, 0);
            unlike(lane, by - 1, 0);
            unlike(lane, by / 2, 0);
            unlike(lane, Long.MAX_VALUE, 0);
        }
        becomes(1, 400, 400);
        becomes(1, 65536 + 400, 400);
        becomes(1, 400 - 65536, 400);
        becomes(2, 9200, 9200);
        becomes(2, (1L << 32) + 9200, 9200);
        becomes(2, 9200 - (1L << 32), 9200);
        becomes(3, 9200, 9200);
        unlike(3, (1L << 32) + 9200, 9200);
        unlike(3, 1L << 32, 0);
        unlike(3, Long.MIN_VALUE, 0);
        unlike(2, 1L << 31, 0);
        unlike(1, 1L << 15, 0);
        unlike(0, 1L << 7, 0);
        signs();
    }

    /** The sign of a lane is seen by l: -1 .. -6 are rows, 250 .. 255 are none. */
    private static void signs() {
        long[] all = {0xffL, 0xffffL, 0xffffffffL, -1L};
        for (int lane = 0; lane < 4; lane++) {
            GoreGlobe globe = Check.told(10, 12, 1);
            globe.sheet(0, lane, 3);
            for (int l = 0; l <= 5; l++) {
                put(globe, 0, lane, 0, all[lane] - l, 1, 20);
                due("30: row -" + (l + 1) + " in lane " + lane, globe.seen(0, lane, 0, 1) & 32, 32);
            }
            put(globe, 0, lane, 0, all[lane] - 6, 1, 20);
            due("30: row -7 in lane " + lane, globe.seen(0, lane, 0, 1), NOT);
            put(globe, 0, lane, 0, (all[lane] >>> 1) + 1, 1, 20);
            due("30: the least of lane " + lane, globe.seen(0, lane, 0, 1), NOT);
            put(globe, 0, lane, 0, all[lane] >>> 1, 1, 20);
            due("30: the greatest of lane " + lane, globe.seen(0, lane, 0, 1), NOT);
            put(globe, 0, lane, 0, 0, all[lane], 20);
            due("30: m -1 in lane " + lane, globe.seen(0, lane, 0, 1), NOT);
        }
    }

    /** "CAST -12 (of SHEETS another LANE)". */
    private static void itemsAreOfTheirLaneAlone() {
        for (int held = 0; held < 4; held++) {
            GoreGlobe globe = new GoreGlobe();
            for (int lane = 0; lane < 4; lane++) {
                globe.sheet(0, held, 30);
                globe.sheet(1, lane, 30);
                boolean isLike = lane == held;
                due("26: lane " + lane + " of " + held, globe.seen(0, lane, 0, 1), isLike ? 63 : CAST);
                due("27: lane " + lane + " of " + held, globe.film(0, 0, lane, 0), isLike ? 24 : CAST);
                due("30: lane " + lane + " of " + held, globe.item(0, lane, 0, 1), isLike ? 1 : CAST);
                due("31: lane " + lane + " from " + held, globe.copy(0, 0, 1, 0, 1), isLike ? 1 : CAST);
                due("31: lane " + lane + " to " + held, globe.copy(1, 0, 0, 0, 0), isLike ? 0 : CAST);
            }
        }
    }

    /** "a row tells n times (1 .. 8) l, m, X". */
    private static void seenTimes() {
        for (int n = 1; n <= 8; n++) {
            GoreGlobe globe = new GoreGlobe();
            globe.sheet(0, 2, 3 * n);
            for (int a = 0; a < n; a++) {
                put(globe, 0, 2, 3 * a, 0, 23 - a, 120 * (23 - a));
            }
            due("26: " + n + " times", globe.seen(0, 2, 0, n), 63);
            due("26: once more", globe.seen(0, 2, 0, n + 1), n == 8 ? BAD : INDEX);
            // The last X alone is another one: it counts as the others do.
            globe.item(0, 2, 3 * n - 1, 1);
            due("26: the last of " + n + " doesn't agree", globe.seen(0, 2, 0, n), 0);
            if (n > 1) {
                due("26: all but the last agree", globe.seen(0, 2, 0, n - 1), 63);
            }
            globe.item(0, 2, 3 * n - 2, 24);
            due("26: the last m of " + n, globe.seen(0, 2, 0, n), NOT);
        }
    }

    /** "from item i on"; "INDEX". */
    private static void seenFromEachItem() {
        GoreGlobe globe = new GoreGlobe();
        globe.sheet(0, 2, 30);
        for (int n = 1; n <= 8; n++) {
            for (int i = -1; i <= 31; i++) {
                due("26: " + n + " from " + i, globe.seen(0, 2, i, n), i >= 0 && i + 3 * n <= 30 ? 63 : INDEX);
            }
            due("26: from the greatest", globe.seen(0, 2, MAX, n), INDEX);
            due("26: from near the greatest", globe.seen(0, 2, MAX - 3 * n + 1, n), INDEX);
            due("26: from the least", globe.seen(0, 2, MIN, n), INDEX);
        }
        globe.sheet(0, 2, 0);
        due("26: of no item", globe.seen(0, 2, 0, 1), INDEX);
        globe.sheet(0, 2, 2);
        due("26: of two items", globe.seen(0, 2, 0, 1), INDEX);
    }

    /** "NOT: an item is no such l, m (X may be any)". */
    private static void seenNoPlace() {
        for (long l = -9; l <= 9; l++) {
            for (long m = -2; m <= 25; m++) {
                GoreGlobe globe = new GoreGlobe();
                globe.sheet(0, 0, 6);
                put(globe, 0, 0, 0, 0, 0, 0, l, m, -128);
                boolean isPlace = l >= -6 && l <= 6 && m >= 0 && m <= 23;
                due("26: " + l + ", " + m, globe.seen(0, 0, 0, 2), isPlace ? 0 : NOT);
                due("26: the first alone", globe.seen(0, 0, 0, 1), 63);
            }
        }
        long[] far = {1L << 32, -(1L << 32), Long.MAX_VALUE, Long.MIN_VALUE, 1L << 33};
        for (long v : far) {
            GoreGlobe globe = new GoreGlobe();
            globe.sheet(0, 3, 3);
            put(globe, 0, 3, 0, v, 0, 0);
            due("26: l " + v, globe.seen(0, 3, 0, 1), NOT);
            put(globe, 0, 3, 0, 0, v, 0);
            due("26: m " + v, globe.seen(0, 3, 0, 1), NOT);
        }
    }

    private static int seen(int u, long... items) {
        GoreGlobe globe = Check.told(u, 12, 1);
        globe.sheet(0, 3, items.length);
        put(globe, 0, 3, 0, items);
        return globe.seen(0, 3, 0, items.length / 3);
    }

    private static void seenAnyX() {
        for (long x : new long[] {Long.MIN_VALUE, -(1L << 32), -1, 1, 119, 121, 2881, 1L << 32, (1L << 32) + 120,
            Long.MAX_VALUE}) {
            due("26: X " + x, seen(60, 0, 1, x), 0);
        }
        due("26: X 120", seen(60, 0, 1, 120), 63);
        due("26: X 0, m 0", seen(60, 0, 0, 0), 63);
        due("26: X -4294967296, m 0", seen(60, 0, 0, -(1L << 32)), 0);
    }

    /** "(a set: bits 0 .. 5 for 2, 3, 4, 6, 8, 12)". */
    private static void seenBits() {
        // U 100, row 4 (C a half), m 1: (2 g and 1) w 100 and (2 j less w) 50, w 12, 8, 6, 4, 3, 2.
        long[] x = {1200 - 500, 800 - 300, 600 - 200, 400 - 100, 300 - 50, 200};
        for (int bit = 0; bit < 6; bit++) {
            due("26: bit " + bit, seen(100, 4, 1, x[bit]), 1 << bit);
            due("26: bit " + bit + ", row -4", seen(100, -4, 1, x[bit]), 1 << bit);
            due("26: bit " + bit + ", another X, too", seen(100, 4, 1, x[bit], 4, 1, x[(bit + 1) % 6]), 0);
            due("26: bit " + bit + ", beside what all agree to", seen(100, 0, 5, 1000, 4, 1, x[bit]), 1 << bit);
        }
        // m 0 is j 0 of all: w 100 less w 50.
        due("26: m 0 by 2", seen(100, 4, 0, 600), 1);
        due("26: m 0 by 12", seen(100, 4, 0, 100), 32);
        // m 23 is the last j of all: 4800 less w 100 and (w less 2) 50.
        due("26: m 23 by 2", seen(100, 4, 23, 4800 - 1200 + 500), 1);
        due("26: m 23 by 12", seen(100, 4, 23, 4800 - 200), 32);
        // m 12 is cut by 2, 4, 6, 8, 12: 2400 and w 50; by 3 it is j 4 of 8, the middle: 2400.
        due("26: m 12 by 3", seen(100, 4, 12, 2400), 2);
        due("26: m 12 by 8", seen(100, 4, 12, 2400 + 150), 16);
    }

    private static void seenOfPoles() {
        for (int m = 0; m < 24; m++) {
            for (int bit = 0; bit < 6; bit++) {
                int middle = 24 / Check.NUMBERS[bit] * 60;
                due("26: the north pole, m " + m, seen(60, 6, m, middle), 1 << bit);
                due("26: the south pole, m " + m, seen(60, -6, m, middle), 1 << bit);
            }
            due("26: not on the last strip", seen(60, 6, m, 2160), 0);
        }
    }

    /** "U being as it is, were there no CAPS". */
    private static void seenWithoutCaps() {
        for (int k = 0; k <= 3; k++) {
            for (int n : Check.NUMBERS) {
                GoreGlobe globe = Check.told(100, n, k);
                globe.sheet(0, 2, 6);
                put(globe, 0, 2, 0, 5, 1, 200, 6, 7, 200);
                due("26: rows 5 and 6, k " + k + ", n " + n, globe.seen(0, 2, 0, 2), 32);
                globe.tell(0, 101);
                due("26: by another U", globe.seen(0, 2, 0, 2), 0);
                globe.undo();
                due("26: by U undone", globe.seen(0, 2, 0, 2), 32);
            }
        }
    }

    private static void seenNotOfTwins() {
        due("26: m 0 at the end", seen(60, 0, 0, 2880), 0);
        due("26: row 3, m 12 on the strip ahead", seen(60, 3, 12, 720 + 509), 0);
        due("26: row 3, m 12 on its own", seen(60, 3, 12, 2160 - 509), 1);
    }

    /** "24 items, come to a SHEET likewise". */
    private static void filmFromEachItem() {
        for (int n = 0; n <= 30; n++) {
            GoreGlobe globe = new GoreGlobe();
            globe.sheet(0, 2, n);
            for (int i = -1; i <= 31; i++) {
                due("27: from " + i + " of " + n, globe.film(0, 0, 2, i), i >= 0 && i + 24 <= n ? 24 : INDEX);
            }
            due("27: from the greatest", globe.film(0, 0, 2, MAX), INDEX);
            due("27: from near the greatest", globe.film(0, 0, 2, MAX - 22), INDEX);
            due("27: from the least", globe.film(0, 0, 2, MIN), INDEX);
        }
        for (int i = 0; i <= 6; i++) {
            GoreGlobe globe = new GoreGlobe();
            globe.sheet(0, 2, 30);
            for (int at = 0; at < 30; at++) {
                globe.item(0, 2, at, 7);
            }
            globe.film(1, 0, 2, i);
            globe.sheet(1, 2, 30);
            for (int at = 0; at < 30; at++) {
                globe.sheet(2, 2, 3);
                boolean isFilmed = at >= i && at < i + 24;
                put(globe, 2, 2, 0, 1, isFilmed ? at - i : 0);
                globe.copy(0, at, 2, 2, 1);
                due("27: item " + at + ", from " + i, globe.seen(2, 2, 0, 1) & 32, isFilmed ? 32 : 0);
            }
        }
    }

    /** "NOT: the row isn't on STRIPS"; X of all 24 by each number of strips. */
    private static void filmOfEachRow() {
        for (int k = 0; k <= 3; k++) {
            for (int bit = 0; bit < 6; bit++) {
                for (int l = -6; l <= 6; l++) {
                    GoreGlobe globe = Check.told(97, Check.NUMBERS[bit], k);
                    globe.sheet(0, 2, 24);
                    boolean isOn = Math.abs(l) <= 6 - k;
                    due("27: row " + l + ", k " + k, globe.film(l, 0, 2, 0), isOn ? 24 : NOT);
                    globe.sheet(1, 2, 24);
                    for (int m = 0; isOn && m < 24; m++) {
                        put(globe, 1, 2, 0, l, m);
                        globe.copy(0, m, 1, 2, 1);
                        due("27: row " + l + ", m " + m, globe.seen(1, 2, 0, 1) >> bit & 1, 1);
                    }
                }
            }
        }
    }

    /** "their lowest bits": U 200, n 2, row 0: X 400 m; as a byte 400 is -112, as a short all stay. */
    private static void filmLowestBits() {
        GoreGlobe globe = Check.told(200, 2, 1);
        globe.sheet(0, 1, 24);
        due("27: shorts", globe.film(0, 0, 1, 0), 24);
        globe.sheet(1, 1, 3);
        put(globe, 1, 1, 0, 0, 23);
        globe.copy(0, 23, 1, 2, 1);
        due("27: 9200 as a short", globe.seen(1, 1, 0, 1), 63);
        globe.sheet(0, 0, 24);
        due("27: bytes", globe.film(0, 0, 0, 0), 24);
        globe.sheet(1, 0, 3);
        // 16 times 400 is 25 times 256: 0 as a byte, as X of m 0 is.
        put(globe, 1, 0, 0, 0, 0);
        globe.copy(0, 16, 1, 2, 1);
        due("27: 6400 as a byte is 0", globe.seen(1, 0, 0, 1), 63);
        globe.copy(0, 8, 1, 2, 1);
        due("27: 3200 as a byte is -128", globe.seen(1, 0, 0, 1), 0);
        globe.tell(0, 10);
        // 400 m less 256 times as many as fit is 20 m' for m 5: 2000 is 7 times 256 and 208, as a byte -48.
        globe.copy(0, 5, 1, 2, 1);
        due("27: 2000 as a byte is no X", globe.seen(1, 0, 0, 1), 0);
        put(globe, 1, 0, 1, 4);
        globe.copy(0, 13, 1, 2, 1);
        due("27: 5200 as a byte is 80", globe.seen(1, 0, 0, 1), 63);
    }

    /** "INDEX also where no item is taken, if i, j is below 0, or above how many there are". */
    private static void copyOfNone() {
        int[] sizes = {0, 1, 29, 30};
        for (int size : sizes) {
            for (int other : sizes) {
                GoreGlobe globe = new GoreGlobe();
                globe.sheet(0, 1, size);
                globe.sheet(1, 1, other);
                for (int i : new int[] {MIN, -1, 0, size, size + 1, MAX}) {
                    for (int j : new int[] {MIN, -1, 0, other, other + 1, MAX}) {
                        boolean isIn = i >= 0 && i <= size && j >= 0 && j <= other;
                        due("31: none, " + i + " of " + size + " to " + j + " of " + other,
                            globe.copy(0, i, 1, j, 0), isIn ? 0 : INDEX);
                        due("31: n -1", globe.copy(0, i, 1, j, -1), INDEX);
                    }
                }
            }
        }
    }

    private static void copyOfAll() {
        for (int size = 0; size <= 30; size++) {
            GoreGlobe globe = new GoreGlobe();
            globe.sheet(0, 3, size);
            globe.sheet(1, 3, 30);
            due("31: all of " + size, globe.copy(0, 0, 1, 30 - size, size), size);
            due("31: one too many of " + size, globe.copy(0, 0, 1, 0, size + 1), INDEX);
            due("31: one too far", globe.copy(0, 0, 1, 31 - size, size), INDEX);
            due("31: one too late", globe.copy(0, 1, 1, 0, size), INDEX);
            due("31: one too early", globe.copy(0, -1, 1, 0, size), INDEX);
            due("31: to one too early", globe.copy(0, 0, 1, -1, size), INDEX);
            due("31: too many for it", globe.copy(1, 0, 0, 0, size + 1), INDEX);
            due("31: just as many", globe.copy(1, 30 - size, 0, 0, size), size);
            due("31: n " + MAX, globe.copy(0, 0, 1, 0, MAX), INDEX);
            due("31: n " + MIN, globe.copy(0, 0, 1, 0, MIN), INDEX);
            due("31: i and n " + MAX, globe.copy(0, MAX, 1, 0, MAX), INDEX);
            due("31: j and n " + MAX, globe.copy(0, 0, 1, MAX, MAX), INDEX);
        }
    }

    /** "or the same .. as if all were taken ahead": 30 items that are all unlike, moved by each way. */
    private static void copyOverItself() {
        for (int by = -9; by <= 9; by++) {
            GoreGlobe globe = Check.told(10, 12, 1);
            globe.sheet(0, 2, 30);
            for (int i = 0; i < 24; i++) {
                globe.item(0, 2, i, 20 * i);
            }
            int from = Math.max(0, -by);
            int to = Math.max(0, by);
            int n = 24 - Math.abs(by);
            due("31: over itself by " + by, globe.copy(0, from, 0, to, n), n);
            for (int at = 0; at < 24; at++) {
                int m = at >= to && at < to + n ? at - by : at;
                globe.sheet(1, 2, 3);
                globe.item(1, 2, 1, m);
                globe.copy(0, at, 1, 2, 1);
                due("31: item " + at + " by " + by, globe.seen(1, 2, 0, 1), 63);
            }
        }
    }

    private static void copyIsOfItsOwn() {
        GoreGlobe globe = new GoreGlobe();
        globe.sheet(0, 2, 3);
        globe.sheet(1, 2, 3);
        put(globe, 0, 2, 0, 0, 5, 600);
        globe.copy(0, 0, 1, 0, 3);
        put(globe, 0, 2, 0, 9, 9, 9);
        due("31: a copy stays as it is", globe.seen(1, 2, 0, 1), 63);
        due("31: what it was taken from changes", globe.seen(0, 2, 0, 1), NOT);
        globe.drop(0);
        due("31: a copy stays, what it was taken from being nothing", globe.seen(1, 2, 0, 1), 63);
    }
}
