/** Promises 7 to 13, by numbers worked out from the document. */
final class WaysTest {
    private static final int BAD = GoreGlobe.BAD, NONE = GoreGlobe.NONE;
    private static final Check CHECK = new Check();

    public static void main(String[] args) {
        promise7();
        promise7Land();
        promise8();
        promise9();
        promise10();
        promise11();
        promise12();
        promise12Caps();
        promise13();
        CHECK.end();
    }

    private static void due(String call, long got, long want) {
        CHECK.due(call, got, want);
    }

    private static void way(String told, GoreGlobe globe, int from, int to, int far, int steps, int first) {
        due("7: FAR, " + told, globe.way(from, to, 0), far);
        due("7: steps, " + told, globe.way(from, to, 1), steps);
        due("7: first, " + told, globe.way(from, to, 2), first);
    }

    private static void promise7() {
        GoreGlobe globe = new GoreGlobe();
        way("pole to pole", globe, 0, 265, 1440, 12, 1);
        way("back", globe, 265, 0, 1440, 12, 241);
        way("around row 0, or over a pole", globe, 121, 133, 1440, 12, 97);
        way("to the row that is shorter around", globe, 121, 146, 235, 2, 145);
        way("from it", globe, 146, 121, 235, 2, 145);
        way("the same", globe, 77, 77, 0, 0, NONE);
        way("23 to 0", globe, 144, 121, 120, 1, 121);
        globe.tell(0, 10);
        way("of like ones the fewest steps", globe, 241, 249, 40, 2, 265);
        way("of like ones the fewest steps, south", globe, 1, 9, 40, 2, 0);
        way("shorter around", globe, 241, 248, 35, 7, 242);
        for (int what = 0; what <= 2; what++) {
            due("7: -1", globe.way(-1, 0, what), BAD);
            due("7: 266", globe.way(0, 266, what), BAD);
        }
        due("7: what 3", globe.way(0, 1, 3), BAD);
        due("7: what -1", globe.way(0, 1, -1), BAD);
    }

    private static void promise7Land() {
        GoreGlobe globe = new GoreGlobe();
        globe.land(122, 1);
        way("around a place that is land", globe, 121, 123, 470, 4, 97);
        for (int what = 0; what <= 2; what++) {
            due("7: from land", globe.way(122, 121, what), NONE);
            due("7: to land", globe.way(121, 122, what), NONE);
            due("7: land to itself", globe.way(122, 122, what), NONE);
        }
        Check.read(globe, "0:0-23");
        due("7: land between", globe.way(0, 265, 0), NONE);
        due("7: on one side", globe.way(0, 120, 0), 600);
        Check.read(globe, "0:1-23");
        way("one gap", globe, 0, 265, 1440, 12, 1);
        Check.read(globe, "0:0-2,4-23");
        way("another gap", globe, 0, 265, 1440, 12, 4);
    }

    private static void promise8() {
        GoreGlobe globe = new GoreGlobe();
        due("8: all", globe.sea(0, 0), 266);
        Check.read(globe, "5:0-23");
        due("8: the first", globe.sea(0, 0), 241);
        due("8: its greatest", globe.sea(0, 2), 240);
        due("8: the pole alone", globe.sea(1, 0), 1);
        due("8: its least", globe.sea(1, 1), 265);
        due("8: its greatest", globe.sea(1, 2), 265);
        due("8: no third", globe.sea(2, 0), BAD);
        Check.read(globe, "-6:0;-5:0,2;-4:1");
        due("8: numbered by the least place", globe.sea(0, 0), 1);
        due("8: numbered by the least place", globe.sea(0, 1), 2);
        due("8: the rest", globe.sea(1, 0), 261);
        due("8: the rest's least", globe.sea(1, 1), 4);
        due("8: a place's sea", globe.place(6, 9, 2), 1);
        due("8: hanging together by 23 and 0", globe.place(-5, 23, 2), 1);
        due("8: all land", Check.read(globe, Check.ALL), 266);
        due("8: no sea", globe.sea(0, 0), BAD);
        due("8: no seas", globe.count(4), 0);
        due("8: -1", new GoreGlobe().sea(-1, 0), BAD);
        due("8: what 3", new GoreGlobe().sea(0, 3), BAD);
        due("8: what -1", new GoreGlobe().sea(0, -1), BAD);
    }

    private static void promise9() {
        GoreGlobe globe = new GoreGlobe();
        due("9: none", globe.stop(0), NONE);
        globe.add(7);
        globe.add(265);
        due("9: first", globe.stop(0), 7);
        due("9: second", globe.stop(1), 265);
        due("9: no third", globe.stop(2), NONE);
        due("9: far behind", globe.stop(Integer.MAX_VALUE), NONE);
        due("9: -1", globe.stop(-1), BAD);
        due("9: least", globe.stop(Integer.MIN_VALUE), BAD);
        for (int i = 0; i < 6; i++) {
            globe.add(i);
        }
        due("9: the eighth", globe.stop(7), 5);
        due("9: no ninth", globe.stop(8), NONE);
    }

    private static void promise10() {
        GoreGlobe globe = new GoreGlobe();
        due("10: none", globe.route(0), 0);
        due("10: no length", globe.route(1), 0);
        globe.land(0, 1);
        globe.add(0);
        due("10: one, though land", globe.route(1), 0);
        globe.land(0, 0);
        globe.add(265);
        due("10: two", globe.route(1), 1440);
        globe.add(265);
        due("10: the same again", globe.route(1), 1440);
        globe.add(0);
        due("10: there and back", globe.route(1), 2880);
        due("10: how many", globe.route(0), 4);
        globe.tell(0, 10);
        due("10: by another U", globe.route(1), 480);
        globe.land(265, 1);
        due("10: a stop is land", globe.route(1), NONE);
        due("10: what -1", globe.route(-1), BAD);
        due("10: what 2", globe.route(2), BAD);
    }

    private static void promise11() {
        GoreGlobe globe = new GoreGlobe();
        due("11: no way is no turn", globe.rolled(1, 0), 0);
        due("11: nothing over", globe.rolled(1, 1), 0);
        globe.add(0);
        globe.add(265);
        due("11: whole turns", globe.rolled(7, 0), 205);
        due("11: over", globe.rolled(7, 1), 5);
        due("11: just", globe.rolled(1440, 0), 1);
        due("11: just", globe.rolled(1440, 1), 0);
        due("11: v 1", globe.rolled(1, 0), 1440);
        due("11: v 10000", globe.rolled(10000, 1), 1440);
        due("11: v 0", globe.rolled(0, 0), BAD);
        due("11: v -1", globe.rolled(-1, 1), BAD);
        due("11: v 10001", globe.rolled(10001, 0), BAD);
        due("11: what 2", globe.rolled(7, 2), BAD);
        due("11: what -1", globe.rolled(7, -1), BAD);
        globe.land(0, 1);
        due("11: no length", globe.rolled(7, 0), NONE);
        due("11: no length", globe.rolled(7, 1), NONE);
        due("11: BAD ahead of NONE", globe.rolled(0, 0), BAD);
    }

    private static void lost(String told, GoreGlobe globe, int c, long above, long below) {
        due("12: above, " + told, globe.lost(c, 0), above);
        due("12: below, " + told, globe.lost(c, 1), below);
    }

    private static void promise12() {
        GoreGlobe globe = new GoreGlobe();
        lost("no land", globe, 10, 1, 1);
        globe.tell(1, 2);
        globe.land(122, 1);
        lost("one strip", globe, 5, 1, 2);
        lost("none is lost", globe, 0, 1, 1);
        lost("all are lost", globe, 10, 0, 1);
        Check.read(globe, "0:0");
        lost("cut", globe, 5, 3, 4);
        Check.read(globe, "0:12");
        lost("cut, other side", globe, 4, 21, 25);
        globe.tell(1, 3);
        Check.read(globe, "0:0,8");
        lost("cut twice", globe, 5, 5, 8);
        lost("cut twice", globe, 3, 847, 1000);
        Check.read(globe, "0:0,8,16");
        lost("cut all around", globe, 5, 1, 2);
        Check.read(globe, "0:0,23");
        lost("cut, but its neighbour is needed", globe, 3, 7, 10);
        globe.tell(1, 12);
        Check.read(globe, "0:0-23");
        lost("all strips needed", globe, 5, 1, 4096);
        lost("in lowest terms, all the same", globe, 1, 282429536481L, 1000000000000L);
        due("12: c -1", globe.lost(-1, 0), BAD);
        due("12: c 11", globe.lost(11, 1), BAD);
        due("12: what 2", globe.lost(5, 2), BAD);
        due("12: what -1", globe.lost(5, -1), BAD);
    }

    private static void promise12Caps() {
        GoreGlobe globe = new GoreGlobe();
        globe.land(265, 1);
        lost("a pole that isn't on strips", globe, 10, 1, 1);
        globe.tell(2, 0);
        lost("a pole is on any strip", globe, 2, 244140624, 244140625);
        lost("a pole, all lost", globe, 10, 0, 1);
        globe.tell(1, 2);
        lost("a pole of two strips", globe, 3, 91, 100);
        Check.read(globe, "-6:0");
        lost("the south pole", globe, 3, 91, 100);
        globe.land(122, 1);
        lost("a pole and a place", globe, 3, 7, 10);
        globe.tell(2, 3);
        Check.read(globe, "4:1;-4:13;5:2");
        lost("rows that aren't on strips", globe, 7, 1, 1);
        Check.read(globe, "4:1;3:13");
        lost("a row that is", globe, 7, 3, 10);
    }

    private static void promise13() {
        GoreGlobe globe = new GoreGlobe();
        globe.tell(0, 77);
        globe.tell(1, 8);
        globe.tell(2, 3);
        Check.read(globe, "6:0;5:0-23;3:0-4;2:1");
        due("13: U", globe.count(0), 77);
        due("13: STRIPS", globe.count(1), 8);
        due("13: CAPS", globe.count(2), 3);
        due("13: LAND", globe.count(3), 31);
        due("13: SEAS", globe.count(4), 1);
        due("13: LAND on STRIPS", globe.count(5), 6);
        due("13: what may be UNDONE", globe.count(6), 4);
        globe.tell(2, 0);
        due("13: LAND on STRIPS, poles, too", globe.count(5), 31);
        globe.land(265, 0);
        due("13: SEAS", globe.count(4), 2);
        globe.drift(3);
        due("13: 6 are known", globe.count(6), 6);
        due("13: -1", globe.count(-1), BAD);
        due("13: 7", globe.count(7), BAD);
        due("13: least", globe.count(Integer.MIN_VALUE), BAD);
    }
}
