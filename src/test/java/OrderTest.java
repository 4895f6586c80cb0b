/** "of several BAD ahead of all others, then the first that a call names": calls that are wrong in several ways. */
final class OrderTest {
    private static final int BAD = GoreGlobe.BAD, NOT = GoreGlobe.NOT, FULL = GoreGlobe.FULL, NONE = GoreGlobe.NONE;
    private static final int NULL = GoreGlobe.NULL, CAST = GoreGlobe.CAST, INDEX = GoreGlobe.INDEX, SIZE = GoreGlobe.SIZE;
    private static final int[] OUTSIDE = {Integer.MIN_VALUE, -1, 266, Integer.MAX_VALUE};
    private static final int[] NO_SHEET = {Integer.MIN_VALUE, -1, 4, Integer.MAX_VALUE};
    private static final Check CHECK = new Check();

    public static void main(String[] args) {
        placeAndFlat();
        back();
        pair();
        ways();
        done();
        tapeAndText();
        seen();
        film();
        sheet();
        item();
        copy();
        CHECK.end();
    }

    private static void due(String call, long got, long want) {
        CHECK.due(call, got, want);
    }

    /** At first CAPS are 1: the poles are on no strip, rows -4 .. 4 on no cap. */
    private static void placeAndFlat() {
        GoreGlobe globe = new GoreGlobe();
        globe.land(121, 1);
        for (int bad : NO_SHEET) {
            int far = bad == 4 ? 24 : bad;
            due("2: BAD m ahead of NONE, no strip", globe.place(6, far, 3), BAD);
            due("2: BAD m ahead of NONE, land", globe.place(0, far, 2), BAD);
            due("3: BAD m ahead of NONE, no strip", globe.flat(-6, far, 0), BAD);
            due("3: BAD m ahead of NONE, not cut", globe.flat(0, far, 2), BAD);
            due("3: BAD m ahead of NONE, no cap", globe.flat(4, far, 3), BAD);
            int what = bad == 4 ? 5 : bad;
            due("3: BAD what ahead of NONE, no strip", globe.flat(6, 0, what), BAD);
            due("3: BAD what ahead of NONE, no cap", globe.flat(0, 0, what), BAD);
        }
        due("3: NONE, no strip", globe.flat(-6, 23, 0), NONE);
        due("3: NONE, not cut", globe.flat(0, 23, 2), NONE);
        due("3: NONE, no cap", globe.flat(4, 23, 3), NONE);
        due("2: NONE, no strip", globe.place(6, 23, 3), NONE);
        due("2: NONE, land", globe.place(0, 0, 2), NONE);
    }

    private static void back() {
        GoreGlobe globe = new GoreGlobe();
        due("4: NONE, the row is on no strip", globe.back(0, 0, 1440), NONE);
        due("4: NONE, beside the strip", globe.back(0, 0, 1320), NONE);
        due("4: BAD X ahead of NONE", globe.back(0, -1, 1440), BAD);
        due("4: BAD X ahead of NONE", globe.back(0, 2881, 1320), BAD);
        due("4: BAD Y, though X is on no strip", globe.back(0, 0, 1441), BAD);
        globe.tell(2, 0);
        for (int paper = 1; paper <= 2; paper++) {
            due("4: NONE, no caps", globe.back(paper, 0, 0), NONE);
            for (int bad : new int[] {-1, 1}) {
                due("4: BAD X ahead of NONE, no caps", globe.back(paper, bad, 0), BAD);
                due("4: BAD Y ahead of NONE, no caps", globe.back(paper, 0, bad), BAD);
            }
        }
        due("4: BAD paper ahead of NONE, no caps", globe.back(3, 0, 0), BAD);
    }

    private static void pair() {
        GoreGlobe globe = new GoreGlobe();
        for (int bad : OUTSIDE) {
            due("5: BAD what ahead of NOT", globe.pair(0, 265, bad), BAD);
            due("5: BAD what ahead of NONE", globe.pair(0, 1, bad), BAD);
            due("5: BAD place ahead of NOT", globe.pair(bad, 100, 0), BAD);
            due("5: BAD place ahead of NOT and NONE", globe.pair(0, bad, 1), BAD);
        }
        due("5: NOT ahead of NONE, two poles", globe.pair(0, 265, 1), NOT);
        due("5: NOT ahead of NONE, a pole and a row", globe.pair(265, 121, 1), NOT);
        due("5: NOT ahead of NONE, a pole and itself", globe.pair(265, 265, 1), NOT);
        due("5: NONE", globe.pair(265, 264, 1), NONE);
        globe.tell(2, 3);
        due("5: NOT ahead of NONE, row 5 askew", globe.pair(241, 218, 1), NOT);
        due("5: NONE, rows 4 and 5", globe.pair(241, 217, 1), NONE);
    }

    private static void ways() {
        GoreGlobe globe = new GoreGlobe();
        Check.read(globe, Check.ALL);
        globe.add(5);
        globe.add(6);
        for (int bad : OUTSIDE) {
            due("7: BAD from ahead of NONE", globe.way(bad, 5, 0), BAD);
            due("7: BAD to ahead of NONE", globe.way(5, bad, 0), BAD);
            due("7: BAD what ahead of NONE", globe.way(5, 6, bad), BAD);
            due("10: BAD what ahead of NONE", globe.route(bad), BAD);
            due("11: BAD what ahead of NONE", globe.rolled(1, bad), BAD);
        }
        for (int v : new int[] {Integer.MIN_VALUE, -1, 0, 10001, Integer.MAX_VALUE}) {
            due("11: BAD v ahead of NONE", globe.rolled(v, 0), BAD);
        }
        due("7: NONE", globe.way(5, 6, 2), NONE);
        due("10: NONE", globe.route(1), NONE);
        due("11: NONE", globe.rolled(1, 0), NONE);
        due("8: BAD both ways", globe.sea(0, 3), BAD);
        due("12: BAD both ways", globe.lost(11, 2), BAD);
    }

    private static void done() {
        GoreGlobe globe = new GoreGlobe();
        for (int bad : OUTSIDE) {
            due("14: BAD place ahead of NOT", globe.land(bad, 0), BAD);
            due("14: BAD place and v", globe.land(bad, 2), BAD);
            due("15: BAD what, though U, STRIPS, CAPS are so", globe.tell(bad, 1), BAD);
            due("17: BAD ahead of NONE", globe.out(bad), BAD);
        }
        for (int i = 0; i < 8; i++) {
            globe.add(i);
        }
        for (int bad : OUTSIDE) {
            due("16: BAD ahead of FULL", globe.add(bad), BAD);
        }
        due("16: FULL", globe.add(0), FULL);
    }

    private static void tapeAndText() {
        GoreGlobe globe = new GoreGlobe();
        Check.type(globe, Check.ALL);
        for (int bad : new int[] {Integer.MIN_VALUE, -1, 31, 127, Integer.MAX_VALUE}) {
            due("19: BAD ahead of FULL", globe.type(bad), BAD);
        }
        due("19: FULL", globe.type(32), FULL);
        GoreGlobe two = new GoreGlobe();
        due("20: the first fault of two", Check.read(two, "1:5x;7:99"), -23);
        due("20: the first fault, though the end is one, too", Check.read(two, "8:"), -20);
        due("20: a number above 23 ahead of its third figure", Check.read(two, "1:249"), -22);
        due("20: a third figure ahead of a number above 23", Check.read(two, "1:123,99"), -24);
    }

    /** Sheet 0: 24 ints, the first no row; 1: no shorts; 2: nothing; 3: 30 ints, 0 all. */
    private static GoreGlobe withSheets() {
        GoreGlobe globe = new GoreGlobe();
        globe.sheet(0, 2, 24);
        globe.item(0, 2, 0, 7);
        globe.sheet(1, 1, 0);
        globe.sheet(3, 2, 30);
        return globe;
    }

    /** "BAD; NULL; CAST; INDEX; NOT". */
    private static void seen() {
        GoreGlobe globe = withSheets();
        for (int bad : NO_SHEET) {
            int n = bad == 4 ? 9 : bad;
            due("26: BAD n ahead of NULL", globe.seen(2, 2, 0, n), BAD);
            due("26: BAD n ahead of CAST", globe.seen(0, 1, 0, n), BAD);
            due("26: BAD n ahead of INDEX", globe.seen(0, 2, -1, n), BAD);
            due("26: BAD n ahead of NOT", globe.seen(0, 2, 0, n), BAD);
            due("26: BAD lane ahead of NULL", globe.seen(2, bad, 0, 1), BAD);
            due("26: BAD lane ahead of CAST", globe.seen(0, bad, 0, 1), BAD);
            due("26: BAD lane ahead of INDEX", globe.seen(0, bad, 25, 1), BAD);
            due("26: BAD sheet ahead of INDEX", globe.seen(bad, 2, -1, 1), BAD);
        }
        due("26: BAD n 0 ahead of NULL", globe.seen(2, 2, 0, 0), BAD);
        due("26: NULL ahead of INDEX", globe.seen(2, 2, -1, 1), NULL);
        due("26: CAST ahead of INDEX", globe.seen(0, 1, -1, 1), CAST);
        due("26: CAST ahead of INDEX, no items", globe.seen(1, 2, 0, 1), CAST);
        due("26: CAST ahead of NOT", globe.seen(0, 3, 0, 1), CAST);
        due("26: INDEX ahead of NOT", globe.seen(0, 2, 22, 1), INDEX);
        globe.item(0, 2, 22, 99);
        due("26: INDEX ahead of NOT, an item being no place", globe.seen(0, 2, 22, 1), INDEX);
        globe.sheet(0, 2, 23);
        globe.item(0, 2, 0, 7);
        due("26: INDEX ahead of NOT, the first being no row", globe.seen(0, 2, 0, 8), INDEX);
        due("26: NOT", globe.seen(0, 2, 0, 7), NOT);
    }

    /** "BAD; NOT: the row isn't on STRIPS; NULL; CAST; INDEX". */
    private static void film() {
        GoreGlobe globe = withSheets();
        for (int bad : NO_SHEET) {
            due("27: BAD sheet ahead of NOT", globe.film(6, bad, 2, 0), BAD);
            due("27: BAD lane ahead of NOT", globe.film(-6, 0, bad, 0), BAD);
            due("27: BAD lane ahead of NULL", globe.film(0, 2, bad, 0), BAD);
            due("27: BAD lane ahead of INDEX", globe.film(0, 0, bad, -1), BAD);
            due("27: BAD sheet ahead of INDEX", globe.film(0, bad, 2, -1), BAD);
            int l = bad == 4 ? 7 : bad == -1 ? -7 : bad;
            due("27: BAD row ahead of NULL", globe.film(l, 2, 2, 0), BAD);
            due("27: BAD row ahead of CAST", globe.film(l, 0, 1, 0), BAD);
            due("27: BAD row ahead of INDEX", globe.film(l, 0, 2, 1), BAD);
        }
        due("27: NOT ahead of NULL", globe.film(6, 2, 2, 0), NOT);
        due("27: NOT ahead of CAST", globe.film(-6, 0, 1, 0), NOT);
        due("27: NOT ahead of INDEX", globe.film(6, 0, 2, 1), NOT);
        due("27: NULL ahead of INDEX", globe.film(0, 2, 2, -1), NULL);
        due("27: CAST ahead of INDEX", globe.film(0, 0, 3, 1), CAST);
        due("27: INDEX", globe.film(0, 0, 2, 1), INDEX);
    }

    /** "BAD: also n above 30; SIZE: n below 0". */
    private static void sheet() {
        GoreGlobe globe = new GoreGlobe();
        for (int bad : NO_SHEET) {
            due("28: BAD sheet ahead of SIZE", globe.sheet(bad, 0, -1), BAD);
            due("28: BAD lane ahead of SIZE", globe.sheet(0, bad, Integer.MIN_VALUE), BAD);
            due("28: BAD sheet and n", globe.sheet(bad, 0, 31), BAD);
        }
        due("28: SIZE", globe.sheet(0, 0, -1), SIZE);
    }

    /** "BAD; NULL; CAST; INDEX". */
    private static void item() {
        GoreGlobe globe = withSheets();
        for (int bad : NO_SHEET) {
            due("30: BAD lane ahead of NULL", globe.item(2, bad, 0, 1), BAD);
            due("30: BAD lane ahead of CAST", globe.item(0, bad, 0, 1), BAD);
            due("30: BAD lane ahead of INDEX", globe.item(0, bad, -1, 1), BAD);
            due("30: BAD sheet ahead of INDEX", globe.item(bad, 2, 30, 1), BAD);
        }
        due("30: NULL ahead of INDEX", globe.item(2, 2, -1, 1), NULL);
        due("30: CAST ahead of INDEX", globe.item(0, 1, 24, 1), CAST);
        due("30: CAST ahead of INDEX, no items", globe.item(1, 2, 0, 1), CAST);
        due("30: INDEX", globe.item(0, 2, 24, 1), INDEX);
    }

    /** "BAD; NULL (either); CAST: of unlike LANES; INDEX (n below 0, too)". */
    private static void copy() {
        GoreGlobe globe = withSheets();
        for (int bad : NO_SHEET) {
            due("31: BAD from ahead of NULL", globe.copy(bad, 0, 2, 0, 0), BAD);
            due("31: BAD to ahead of NULL", globe.copy(2, 0, bad, 0, 0), BAD);
            due("31: BAD to ahead of INDEX", globe.copy(0, -1, bad, 0, 0), BAD);
            due("31: BAD from ahead of INDEX", globe.copy(bad, 0, 0, 0, -1), BAD);
        }
        due("31: NULL, from, ahead of INDEX", globe.copy(2, -1, 0, 0, 0), NULL);
        due("31: NULL, to, ahead of INDEX", globe.copy(0, 25, 2, 0, 1), NULL);
        due("31: NULL, both, ahead of INDEX", globe.copy(2, 0, 2, 0, -1), NULL);
        due("31: CAST ahead of INDEX, i", globe.copy(0, 25, 1, 0, 0), CAST);
        due("31: CAST ahead of INDEX, j", globe.copy(0, 0, 1, 1, 0), CAST);
        due("31: CAST ahead of INDEX, n", globe.copy(1, 0, 0, 0, -1), CAST);
        due("31: CAST, none being taken", globe.copy(1, 0, 0, 0, 0), CAST);
        due("31: INDEX, n -1", globe.copy(0, 0, 3, 0, -1), INDEX);
        due("31: INDEX, i and j", globe.copy(0, -1, 3, 31, 0), INDEX);
    }
}
