/** Promises 26 to 31, by numbers worked out from the document. */
final class SheetsTest {
    private static final int BAD = GoreGlobe.BAD, NOT = GoreGlobe.NOT;
    private static final int NULL = GoreGlobe.NULL, CAST = GoreGlobe.CAST, INDEX = GoreGlobe.INDEX, SIZE = GoreGlobe.SIZE;
    private static final int MIN = Integer.MIN_VALUE, MAX = Integer.MAX_VALUE;
    private static final Check CHECK = new Check();

    public static void main(String[] args) {
        promise26();
        promise26Refused();
        promise27();
        promise27Refused();
        promise28();
        promise29();
        promise30();
        promise31();
        promise31Refused();
        CHECK.end();
    }

    private static void due(String call, long got, long want) {
        CHECK.due(call, got, want);
    }

    private static GoreGlobe with(int lane, int n, long... items) {
        GoreGlobe globe = new GoreGlobe();
        globe.sheet(0, lane, n);
        for (int i = 0; i < items.length; i++) {
            globe.item(0, lane, i, items[i]);
        }
        return globe;
    }

    private static int seen(long... items) {
        return with(3, 30, items).seen(0, 3, 0, items.length / 3);
    }

    /** SEEN by l, m and, as X, item i of sheet 0: there is no other way to look at an item. */
    private static int seenAt(GoreGlobe globe, int lane, int i, int l, int m) {
        globe.sheet(3, lane, 3);
        globe.item(3, lane, 0, l);
        globe.item(3, lane, 1, m);
        globe.copy(0, i, 3, 2, 1);
        return globe.seen(3, lane, 0, 1);
    }

    private static void promise26() {
        // U 60, row 3, m 5: j 5 of 12, 5 of 8, 5 of 6, 1 of 4, 2 of 3, 1 of 2; widths 12, 8, 6, 4, 3, 2.
        int[] x = {720 - 84, 480 + 84, 360 + 169, 720 - 84, 540 + 42, 600};
        int[] bits = {1 | 8, 2, 4, 1 | 8, 16, 32};
        for (int i = 0; i < 6; i++) {
            due("26: X " + x[i], seen(3, 5, x[i]), bits[i]);
        }
        due("26: in row 0 all are like", seen(0, 5, 600), 63);
        due("26: not the twin's", seen(0, 0, 2880), 0);
        due("26: two that agree", seen(3, 5, 636, 3, 12, 2160 - 509), 1);
        due("26: two that don't", seen(3, 5, 564, 3, 5, 636), 0);
        due("26: a pole, were there no caps", seen(6, 0, 720), 1);
        due("26: a pole by another m", seen(-6, 23, 720), 1);
        due("26: X may be any", seen(0, 5, Long.MAX_VALUE), 0);
        due("26: X with the lowest bits alone", seen(0, 5, 600 + (1L << 32)), 0);
        due("26: eight", seen(0, 1, 120, 0, 2, 240, 0, 3, 360, 0, 4, 480, 0, 5, 600, 0, 6, 720, 0, 7, 840, 3, 5, 600), 32);
        GoreGlobe globe = with(1, 10, 0, 0, 0, 0, 3, 5, 582);
        due("26: from item 4 on, shorts", globe.seen(0, 1, 4, 1), 16);
        globe.tell(2, 3);
        globe.tell(1, 2);
        due("26: whatever STRIPS, CAPS are", globe.seen(0, 1, 4, 1), 16);
        globe.tell(0, 61);
        due("26: U being as it is", globe.seen(0, 1, 4, 1), 0);
        due("26: seen is nothing to undo", globe.count(6), 3);
        GoreGlobe bytes = with(0, 3, -5, 0, 97);
        bytes.tell(0, 50);
        due("26: bytes", bytes.seen(0, 0, 0, 1), 0);
        bytes.item(0, 0, 2, 100 - 25);
        due("26: bytes", bytes.seen(0, 0, 0, 1), 32);
    }

    private static void promise26Refused() {
        due("26: l 7", seen(7, 0, 0), NOT);
        due("26: l -7", seen(-7, 0, 0), NOT);
        due("26: m 24", seen(0, 24, 0), NOT);
        due("26: m -1", seen(0, -1, 0), NOT);
        due("26: l beyond ints", seen(1L << 32, 0, 0), NOT);
        due("26: m beyond ints", seen(0, 1L << 32, 0), NOT);
        due("26: the last one", seen(0, 0, 0, 0, 0, 0, 0, 24, 0), NOT);
        GoreGlobe globe = with(2, 6, 9, 9, 9, 0, 0, 0);
        due("26: only those told", globe.seen(0, 2, 3, 1), 63);
        due("26: INDEX ahead of NOT", globe.seen(0, 2, 0, 3), INDEX);
        due("26: i 4", globe.seen(0, 2, 4, 1), INDEX);
        due("26: i -1", globe.seen(0, 2, -1, 1), INDEX);
        due("26: least i", globe.seen(0, 2, MIN, 8), INDEX);
        due("26: greatest i", globe.seen(0, 2, MAX, 8), INDEX);
        due("26: CAST ahead of INDEX", globe.seen(0, 3, -1, 1), CAST);
        due("26: NULL ahead of INDEX", globe.seen(1, 2, -1, 1), NULL);
        due("26: sheet 4", globe.seen(4, 2, 0, 1), BAD);
        due("26: sheet -1", globe.seen(-1, 2, 0, 1), BAD);
        due("26: lane 4", globe.seen(0, 4, 0, 1), BAD);
        due("26: lane -1", globe.seen(0, -1, 0, 1), BAD);
        due("26: n 0", globe.seen(0, 2, 0, 0), BAD);
        due("26: n 9 ahead of NULL", globe.seen(1, 2, 0, 9), BAD);
        due("26: n -1", globe.seen(0, 2, 0, -1), BAD);
    }

    private static void promise27() {
        GoreGlobe globe = with(2, 30);
        globe.tell(0, 200);
        globe.tell(1, 2);
        due("27: film", globe.film(-1, 0, 2, 3), 24);
        for (int m = 0; m < 24; m++) {
            due("27: X of " + m, seenAt(globe, 2, 3 + m, -1, m) & 1, 1);
        }
        due("27: X by 2 strips alone", seenAt(globe, 2, 3 + 13, -1, 13), 1);
        due("27: ahead of it all stays", globe.seen(0, 2, 0, 1), 63);
        due("27: behind it all stays", globe.seen(0, 2, 27, 1), 63);
        globe.tell(2, 0);
        globe.film(6, 0, 2, 0);
        for (int i = 0; i < 24; i++) {
            due("27: a pole, 24 times", seenAt(globe, 2, i, 6, i), 1);
        }
        due("27: nothing to undo", globe.count(6), 3);
        GoreGlobe bytes = with(0, 24);
        bytes.tell(0, 10);
        bytes.film(0, 0, 0, 0);
        due("27: 120 stays 120", seenAt(bytes, 0, 6, 0, 6), 63);
        due("27: 280 doesn't stay", seenAt(bytes, 0, 14, 0, 14), 0);
        bytes.tell(0, 12);
        due("27: 280 becomes 24", seenAt(bytes, 0, 14, 0, 1), 63);
    }

    private static void promise27Refused() {
        GoreGlobe globe = with(2, 25);
        due("27: i 1", globe.film(0, 0, 2, 1), 24);
        due("27: i 2", globe.film(0, 0, 2, 2), INDEX);
        due("27: i -1", globe.film(0, 0, 2, -1), INDEX);
        due("27: greatest i", globe.film(0, 0, 2, MAX), INDEX);
        due("27: NULL ahead of INDEX", globe.film(0, 1, 2, -1), NULL);
        due("27: CAST ahead of INDEX", globe.film(0, 0, 3, -1), CAST);
        due("27: NOT ahead of NULL", globe.film(6, 1, 2, 0), NOT);
        due("27: NOT ahead of CAST", globe.film(-6, 0, 1, 0), NOT);
        due("27: l 7", globe.film(7, 0, 2, 0), BAD);
        due("27: l -7", globe.film(-7, 0, 2, 0), BAD);
        due("27: BAD ahead of NOT", globe.film(6, 4, 2, 0), BAD);
        due("27: sheet -1", globe.film(0, -1, 2, 0), BAD);
        due("27: lane 4", globe.film(0, 0, 4, 0), BAD);
        due("27: lane -1", globe.film(0, 0, -1, 0), BAD);
        globe.tell(2, 3);
        due("27: row 4 by 3 caps", globe.film(4, 0, 2, 0), NOT);
        due("27: row 3", globe.film(3, 0, 2, 0), 24);
    }

    private static void promise28() {
        GoreGlobe globe = new GoreGlobe();
        for (int lane = 0; lane < 4; lane++) {
            due("28: 30 of lane " + lane, globe.sheet(lane, lane, 30), 30);
        }
        due("28: none", globe.sheet(0, 0, 0), 0);
        due("28: it has none", globe.item(0, 0, 0, 1), INDEX);
        due("28: 31", globe.sheet(1, 0, 31), BAD);
        due("28: -1", globe.sheet(1, 0, -1), SIZE);
        due("28: least", globe.sheet(1, 0, MIN), SIZE);
        due("28: BAD ahead of SIZE", globe.sheet(4, 0, -1), BAD);
        due("28: lane 4", globe.sheet(1, 4, 1), BAD);
        due("28: lane -1", globe.sheet(1, -1, 1), BAD);
        due("28: sheet -1", globe.sheet(-1, 0, 1), BAD);
        due("28: the refused changed nothing", globe.item(1, 1, 29, 1), 1);
        globe.sheet(2, 2, 3);
        globe.item(2, 2, 2, 120);
        globe.sheet(2, 2, 3);
        due("28: a new row", globe.seen(2, 2, 0, 1), 63);
        globe.sheet(2, 3, 3);
        due("28: of another lane", globe.seen(2, 2, 0, 1), CAST);
    }

    private static void promise29() {
        GoreGlobe globe = new GoreGlobe();
        due("29: nothing", globe.drop(0), NULL);
        globe.sheet(0, 3, 17);
        globe.sheet(1, 3, 0);
        due("29: none of them", globe.drop(1), 0);
        due("29: nothing then", globe.drop(1), NULL);
        due("29: 17", globe.drop(0), 17);
        due("29: nothing then", globe.item(0, 3, 0, 1), NULL);
        due("29: -1", globe.drop(-1), BAD);
        due("29: 4", globe.drop(4), BAD);
        globe.sheet(0, 3, 17);
        due("29: held again", globe.drop(0), 17);
    }

    private static void promise30() {
        long[] by = {1L << 8, 1L << 16, 1L << 32, 0};
        for (int lane = 0; lane < 4; lane++) {
            GoreGlobe globe = with(lane, 3, by[lane] + 5, by[lane] * 3 + 23, by[lane] + 108);
            globe.tell(0, 10);
            // Row 5, m 23 by U 10: 480 less all that lies east of it; only its l, m are looked at here.
            due("30: lowest bits of l, m, lane " + lane, globe.seen(0, lane, 0, 1), 0);
            globe.item(0, lane, 0, by[lane] - 1);
            due("30: with a sign, lane " + lane, globe.seen(0, lane, 0, 1), 0);
            globe.item(0, lane, 1, by[lane] - 1);
            due("30: with a sign, lane " + lane, globe.seen(0, lane, 0, 1), NOT);
        }
        GoreGlobe globe = with(0, 3, 0, 6, 120);
        globe.tell(0, 10);
        due("30: 120 as a byte", globe.seen(0, 0, 0, 1), 63);
        due("30: 120 and 256", globe.item(0, 0, 2, 376), 1);
        due("30: 120 again", globe.seen(0, 0, 0, 1), 63);
        due("30: i 2", globe.item(0, 0, 2, 1), 1);
        due("30: i 3", globe.item(0, 0, 3, 1), INDEX);
        due("30: i -1", globe.item(0, 0, -1, 1), INDEX);
        due("30: greatest i", globe.item(0, 0, MAX, 1), INDEX);
        due("30: CAST ahead of INDEX", globe.item(0, 1, 3, 1), CAST);
        due("30: NULL ahead of INDEX", globe.item(1, 0, 3, 1), NULL);
        due("30: sheet 4", globe.item(4, 0, 0, 1), BAD);
        due("30: sheet -1", globe.item(-1, 0, 0, 1), BAD);
        due("30: lane 4 ahead of NULL", globe.item(1, 4, 0, 1), BAD);
        due("30: lane -1", globe.item(0, -1, 0, 1), BAD);
    }

    private static void promise31() {
        GoreGlobe globe = with(2, 9, 0, 1, 120, 0, 2, 240, 0, 3, 360);
        due("31: eastwards over itself", globe.copy(0, 0, 0, 3, 6), 6);
        due("31: as if taken ahead", globe.seen(0, 2, 0, 3), 63);
        globe.item(0, 2, 2, 0);
        due("31: copied from ahead of the change", globe.seen(0, 2, 3, 2), 63);
        globe = with(2, 9, 0, 1, 120, 0, 2, 240, 0, 3, 360);
        due("31: westwards over itself", globe.copy(0, 3, 0, 0, 6), 6);
        globe.item(0, 2, 7, 2);
        due("31: as if taken ahead", globe.seen(0, 2, 0, 2), 63);
        due("31: what lay behind stays", globe.seen(0, 2, 6, 1), 0);
        globe = with(2, 9, 0, 1, 120, 0, 2, 240, 0, 3, 360);
        globe.copy(0, 0, 0, 1, 3);
        // 0 0 1 120 2 240 ..
        globe.item(0, 2, 3, 0);
        due("31: by one, over itself", globe.seen(0, 2, 0, 1), 0);
        globe.item(0, 2, 2, 0);
        due("31: by one, over itself", globe.seen(0, 2, 0, 1), 63);
        globe.sheet(1, 2, 4);
        due("31: to another", globe.copy(0, 6, 1, 1, 3), 3);
        due("31: it came there", globe.seen(1, 2, 1, 1), 63);
        due("31: 3 is its m", globe.item(1, 2, 3, 240) == 1 ? globe.seen(1, 2, 1, 1) : -99, 0);
    }

    private static void promise31Refused() {
        GoreGlobe globe = with(2, 9);
        globe.sheet(1, 2, 4);
        globe.sheet(2, 1, 4);
        due("31: none", globe.copy(0, 0, 1, 0, 0), 0);
        due("31: none, at the ends", globe.copy(0, 9, 1, 4, 0), 0);
        due("31: none, i behind the end", globe.copy(0, 10, 1, 4, 0), INDEX);
        due("31: none, j behind the end", globe.copy(0, 9, 1, 5, 0), INDEX);
        due("31: none, i -1", globe.copy(0, -1, 1, 0, 0), INDEX);
        due("31: none, j -1", globe.copy(0, 0, 1, -1, 0), INDEX);
        due("31: n -1", globe.copy(0, 1, 1, 1, -1), INDEX);
        due("31: least n", globe.copy(0, 0, 1, 0, MIN), INDEX);
        due("31: greatest n", globe.copy(0, 1, 1, 1, MAX), INDEX);
        due("31: greatest i", globe.copy(0, MAX, 1, 0, 1), INDEX);
        due("31: too many for the other", globe.copy(0, 0, 1, 0, 5), INDEX);
        due("31: too many of the one", globe.copy(1, 1, 0, 0, 4), INDEX);
        due("31: all", globe.copy(1, 0, 0, 5, 4), 4);
        due("31: unlike lanes ahead of INDEX", globe.copy(0, -1, 2, 0, 1), CAST);
        due("31: unlike lanes, though none is taken", globe.copy(0, 0, 2, 0, 0), CAST);
        due("31: from nothing", globe.copy(3, 0, 0, 0, 0), NULL);
        due("31: to nothing, ahead of INDEX", globe.copy(0, -1, 3, 0, 1), NULL);
        due("31: from 4", globe.copy(4, 0, 3, 0, 1), BAD);
        due("31: from -1", globe.copy(-1, 0, 0, 0, 1), BAD);
        due("31: to 4 ahead of NULL", globe.copy(3, 0, 4, 0, 1), BAD);
        due("31: to -1", globe.copy(0, 0, -1, 0, 1), BAD);
    }
}
