/** Promises 14 to 25, by numbers worked out from the document. */
final class DoneTest {
    private static final int BAD = GoreGlobe.BAD, NOT = GoreGlobe.NOT, FULL = GoreGlobe.FULL, NONE = GoreGlobe.NONE;
    private static final Check CHECK = new Check();

    public static void main(String[] args) {
        promise14();
        promise15();
        promise16And17();
        promise18();
        promise19();
        promise20();
        promise20Faults();
        promise21();
        promise22();
        promise22Kinds();
        promise23();
        promise24And25();
        CHECK.end();
    }

    private static void due(String call, long got, long want) {
        CHECK.due(call, got, want);
    }

    private static void promise14() {
        GoreGlobe globe = new GoreGlobe();
        due("14: it is sea", globe.land(0, 0), NOT);
        due("14: land", globe.land(0, 1), 1);
        due("14: land", globe.land(265, 1), 2);
        due("14: it is land", globe.land(0, 1), NOT);
        due("14: told twice", globe.count(6), 2);
        due("14: sea", globe.land(0, 0), 1);
        due("14: only that one", globe.place(6, 0, 1), 1);
        due("14: -1", globe.land(-1, 1), BAD);
        due("14: 266", globe.land(266, 1), BAD);
        due("14: v 2", globe.land(0, 2), BAD);
        due("14: v -1", globe.land(0, -1), BAD);
        due("14: nothing changed", globe.count(3), 1);
        due("14: nothing to undo of what was refused", globe.count(6), 3);
        for (int place = 0; place < 265; place++) {
            due("14: place " + place, globe.land(place, 1), place + 2);
        }
        due("14: none is left", globe.count(4), 0);
    }

    private static void promise15() {
        GoreGlobe globe = new GoreGlobe();
        due("15: U 10", globe.tell(0, 10), 60);
        due("15: U 200", globe.tell(0, 200), 10);
        due("15: U is so", globe.tell(0, 200), NOT);
        due("15: U 9", globe.tell(0, 9), BAD);
        due("15: U 201", globe.tell(0, 201), BAD);
        int was = 12;
        for (int strips : new int[] {2, 3, 4, 6, 8, 12}) {
            due("15: STRIPS " + strips, globe.tell(1, strips), was);
            was = strips;
        }
        due("15: STRIPS are so", globe.tell(1, 12), NOT);
        for (int strips : new int[] {-2, 0, 1, 5, 7, 9, 10, 11, 13, 24}) {
            due("15: STRIPS " + strips, globe.tell(1, strips), BAD);
        }
        due("15: CAPS are so", globe.tell(2, 1), NOT);
        due("15: CAPS 0", globe.tell(2, 0), 1);
        due("15: CAPS 3", globe.tell(2, 3), 0);
        due("15: CAPS 4", globe.tell(2, 4), BAD);
        due("15: CAPS -1", globe.tell(2, -1), BAD);
        due("15: what 3", globe.tell(3, 12), BAD);
        due("15: what -1", globe.tell(-1, 12), BAD);
        due("15: U", globe.count(0), 200);
        due("15: STRIPS", globe.count(1), 12);
        due("15: CAPS", globe.count(2), 3);
    }

    private static void promise16And17() {
        GoreGlobe globe = new GoreGlobe();
        int[] stops = {0, 265, 0, 7, 0, 265, 8, 0};
        for (int i = 0; i < 8; i++) {
            due("16: add " + i, globe.add(stops[i]), i + 1);
        }
        due("16: full", globe.add(1), FULL);
        due("16: BAD ahead of FULL", globe.add(266), BAD);
        due("16: -1", globe.add(-1), BAD);
        due("17: nowhere", globe.out(1), NONE);
        due("17: 266", globe.out(266), BAD);
        due("17: -1", globe.out(-1), BAD);
        due("16: 6 are known", globe.count(6), 6);
        due("17: wherever it stands", globe.out(0), 4);
        due("17: the rest", globe.route(0), 4);
        int[] left = {265, 7, 265, 8};
        for (int i = 0; i < 4; i++) {
            due("17: stop " + i, globe.stop(i), left[i]);
        }
        due("17: none behind", globe.stop(4), NONE);
        due("17: out already", globe.out(0), NONE);
        due("16: again", globe.add(0), 5);
        due("16: comes behind", globe.stop(4), 0);
    }

    private static void promise18() {
        GoreGlobe globe = new GoreGlobe();
        due("18: none", globe.reverse(), NOT);
        globe.add(5);
        due("18: one", globe.reverse(), NOT);
        globe.add(6);
        due("18: two", globe.reverse(), 6);
        due("18: the second then", globe.stop(1), 5);
        globe.add(7);
        due("18: three", globe.reverse(), 7);
        due("18: the middle", globe.stop(1), 5);
        due("18: the last", globe.stop(2), 6);
        due("18: what may be undone", globe.count(6), 5);
        globe.undo();
        due("18: undone", globe.stop(0), 6);
    }

    private static void promise19() {
        GoreGlobe globe = new GoreGlobe();
        due("19: 31", globe.type(31), BAD);
        due("19: 127", globe.type(127), BAD);
        due("19: -1", globe.type(-1), BAD);
        due("19: 32", globe.type(32), 1);
        due("19: 126", globe.type(126), 2);
        for (int i = 3; i <= 90; i++) {
            due("19: letter " + i, globe.type('0'), i);
        }
        due("19: full", globe.type('0'), FULL);
        due("19: BAD ahead of FULL", globe.type(31), BAD);
        due("19: 126 can't stand there", globe.read(), -21);
        due("19: empty then", globe.type('0'), 1);
        due("19: a letter is nothing to undo", globe.count(6), 0);
    }

    private static void promise20() {
        GoreGlobe globe = new GoreGlobe();
        globe.land(100, 1);
        due("20: the rest is sea", Check.read(globe, "0:1"), 1);
        due("20: the rest is sea", globe.place(-1, 3, 1), 0);
        due("20: told", globe.place(0, 1, 1), 1);
        due("20: one to itself", Check.read(globe, "1:5-5"), 1);
        due("20: all around", Check.read(globe, "1:5-4"), 24);
        due("20: over 23", Check.read(globe, "-3:22-1"), 4);
        due("20: 22", globe.place(-3, 22, 1), 1);
        due("20: 0", globe.place(-3, 0, 1), 1);
        due("20: not 2", globe.place(-3, 2, 1), 0);
        due("20: not north", globe.place(3, 22, 1), 0);
        due("20: a pole is one", Check.read(globe, "6:3-9,11;-6:23"), 2);
        due("20: rows again, runs again", Check.read(globe, "2:1,1-2;2:2-3"), 3);
        due("20: -0, 00", Check.read(globe, "-0:00,01"), 2);
        due("20: blanks", Check.read(globe, "  -  2  :  3  -  4  ,  5  ;  1  :  1  "), 4);
        due("20: empty then", globe.type('x'), 1);
        due("20: a fault", globe.read(), -20);
        due("20: empty then, by a fault", globe.type('x'), 1);
        due("20: all else stays", globe.count(3), 4);
        due("20: a text that changes nothing may be undone", undoneAfterTheSameTwice(), 1);
    }

    private static int undoneAfterTheSameTwice() {
        GoreGlobe globe = new GoreGlobe();
        Check.read(globe, "0:1");
        Check.read(globe, "0:1");
        return globe.undo();
    }

    private static void fault(String text, int place) {
        GoreGlobe globe = new GoreGlobe();
        globe.land(9, 1);
        due("20: '" + text + "'", Check.read(globe, text), -20 - place);
        due("20: land after '" + text + "'", globe.count(3), 1);
        due("20: nothing to undo of '" + text + "'", globe.count(6), 1);
    }

    private static void promise20Faults() {
        fault("", 0);
        fault("   ", 3);
        fault("-", 1);
        fault("--1:2", 1);
        fault("7:1", 0);
        fault("-7:1", 1);
        fault(" x", 1);
        fault("1", 1);
        fault("1  ", 3);
        fault("11:1", 1);
        fault("1;", 1);
        fault("1:", 2);
        fault("1:  ", 4);
        fault("1:;", 2);
        fault("1:,2", 2);
        fault("1:-2", 2);
        fault("1:24", 2);
        fault("1:30", 2);
        fault("1:245", 2);
        fault("1: 99x", 3);
        fault("1:123", 4);
        fault("1:003", 4);
        fault("1:1 2", 4);
        fault("1:12 3", 5);
        fault("1:2-", 4);
        fault("1:2-  ", 6);
        fault("1:2-24", 4);
        fault("1:2-3-4", 5);
        fault("1:2--3", 4);
        fault("1:2-123", 6);
        fault("1:2,", 4);
        fault("1:2,,3", 4);
        fault("1:2;", 4);
        fault("1:2; ", 5);
        fault("1:2;;", 4);
        fault("1:2:3", 3);
        fault("1:2;3", 5);
        fault("1:2;8:1", 4);
        fault("1:2,3:4", 5);
    }

    private static void promise21() {
        GoreGlobe globe = new GoreGlobe();
        // 1 * 1103515245 + 12345 = 1103527590; by 65536: 16838; left over by 266: 80, row -2, m 7.
        due("21: one turn", globe.drift(1), 1);
        due("21: its place", globe.place(-2, 7, 1), 1);
        due("21: the draw", globe.seed(1), 1103527590);
        due("21: the same place again is sea", globe.drift(1), 0);
        due("21: each may be undone", globe.count(6), 2);
        globe.drift(40);
        due("21: 6 are known", globe.count(6), 6);
        due("21: 0", globe.drift(0), BAD);
        due("21: -1", globe.drift(-1), BAD);
        due("21: 41", globe.drift(41), BAD);
        GoreGlobe once = new GoreGlobe();
        GoreGlobe often = new GoreGlobe();
        int last = once.drift(40);
        for (int i = 1; i < 40; i++) {
            often.drift(1);
        }
        due("21: 40 turns, or 40 times one", often.drift(1), last);
        due("21: the draw of both", often.seed(0), once.seed(0));
        once.undo();
        once.drift(1);
        due("21: an undone turn is drawn again", once.count(3), last);
    }

    private static void promise22() {
        GoreGlobe globe = new GoreGlobe();
        due("22: none", globe.undo(), NONE);
        for (int place = 10; place < 18; place++) {
            globe.land(place, 1);
        }
        for (int left = 5; left >= 0; left--) {
            due("22: more may be", globe.undo(), left);
            due("22: land then", globe.count(3), left + 2);
        }
        due("22: older ones are lost", globe.undo(), NONE);
        due("22: the oldest two stay", globe.count(3), 2);
        globe.land(20, 1);
        globe.undo();
        globe.land(21, 1);
        due("22: undone and another done", globe.undo(), 0);
        globe.seed(99);
        globe.land(22, 1);
        globe.seed(77);
        globe.undo();
        due("22: the draw as ahead of it, whatever was told since", globe.seed(5), 99);
    }

    private static void promise22Kinds() {
        GoreGlobe globe = new GoreGlobe();
        globe.add(3);
        globe.add(4);
        globe.tell(0, 61);
        globe.undo();
        due("22: U", globe.count(0), 60);
        globe.tell(1, 2);
        globe.undo();
        due("22: STRIPS", globe.count(1), 12);
        globe.tell(2, 3);
        globe.undo();
        due("22: CAPS", globe.count(2), 1);
        globe.add(5);
        globe.undo();
        due("22: added", globe.route(0), 2);
        globe.out(3);
        globe.undo();
        due("22: out", globe.stop(0), 3);
        globe.reverse();
        globe.undo();
        due("22: reversed", globe.stop(1), 4);
        Check.read(globe, "0:0-23");
        globe.undo();
        due("22: a text", globe.count(3), 0);
        globe.drift(2);
        globe.undo();
        due("22: one turn of two", globe.count(3), 1);
        due("22: the draw of a turn", globe.seed(0), 1103527590);
        due("22: known", globe.count(6), 3);
    }

    private static void promise23() {
        GoreGlobe globe = new GoreGlobe();
        due("23: 0", globe.seed(0), 1);
        due("23: greatest", globe.seed(Integer.MAX_VALUE), 0);
        due("23: -1", globe.seed(-1), BAD);
        due("23: least", globe.seed(Integer.MIN_VALUE), BAD);
        due("23: it stays", globe.seed(0), Integer.MAX_VALUE);
        due("23: nothing to undo", globe.count(6), 0);
        // 12345 by 65536 is 0: the south pole.
        globe.drift(1);
        due("23: drawn by it", globe.place(-6, 0, 1), 1);
    }

    private static void promise24And25() {
        GoreGlobe globe = new GoreGlobe();
        due("25: none", globe.restore(), NONE);
        globe.add(3);
        globe.land(5, 1);
        globe.tell(0, 100);
        globe.tell(1, 4);
        globe.tell(2, 2);
        globe.seed(1234);
        globe.type('0');
        due("24: image", globe.image(), 1);
        globe.type(':');
        globe.sheet(2, 1, 9);
        globe.drift(40);
        globe.tell(0, 20);
        globe.tell(1, 3);
        globe.tell(2, 0);
        globe.out(3);
        globe.type('1');
        for (int times = 0; times < 2; times++) {
            due("25: restore", globe.restore(), 1);
            due("25: the draw", globe.seed(9), 1234);
            due("25: U", globe.count(0), 100);
            due("25: STRIPS", globe.count(1), 4);
            due("25: CAPS", globe.count(2), 2);
            due("25: LAND", globe.count(3), 1);
            due("25: LAND", globe.place(-5, 4, 1), 1);
            due("25: THE ROUTE", globe.stop(0), 3);
            due("25: what may be UNDONE", globe.count(6), 5);
            due("25: undone", globe.undo(), 4);
            due("25: undone to", globe.count(2), 1);
            globe.undo();
            globe.undo();
            globe.undo();
            due("25: the first", globe.undo(), 0);
            due("25: the first undone", globe.route(0), 0);
            globe.drift(9);
        }
        due("25: THE TAPE isn't in it", globe.read(), 1);
        due("25: nor are SHEETS", globe.drop(2), 9);
        due("24: a second image", globe.image(), 1);
        globe.undo();
        globe.restore();
        due("25: the latest image", globe.place(0, 1, 1), 1);
    }
}
