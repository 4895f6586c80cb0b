/** Part 2 of the document's terms, and promises 7 to 13: each sentence that names an edge, at that edge. */
final class WaysEdgesTest {
    private static final int BAD = GoreGlobe.BAD, NONE = GoreGlobe.NONE;
    private static final int MIN = Integer.MIN_VALUE, MAX = Integer.MAX_VALUE;
    private static final int[] BEYOND = {MIN, -1, 266, MAX};
    private static final Check CHECK = new Check();

    public static void main(String[] args) {
        allIsSeaAtFirst();
        landAlone();
        allButOne();
        seasByNeighboursAlone();
        asManySeasAsMayBe();
        seaIsBad();
        wayIsBad();
        wayWithoutStep();
        wayByLand();
        wayAround23And0();
        wayOverPoles();
        waysThatAreLike();
        firstPlaceOfLikeWays();
        longestWay();
        stopsFromNoneTo8();
        lengthOfNoneOneAndEight();
        lengthWithoutWay();
        wheelAndItsEdges();
        lostByNothingAndAll();
        lostByTwins();
        lostByPoles();
        lostBesideCaps();
        lostInLowestTerms();
        countIsBad();
        countLandOnStrips();
        CHECK.end();
    }

    private static void due(String call, long got, long want) {
        CHECK.due(call, got, want);
    }

    private static GoreGlobe globeOf(String text) {
        GoreGlobe globe = new GoreGlobe();
        Check.read(globe, text);
        return globe;
    }

    /** "A PLACE is SEA (all at first)". */
    private static void allIsSeaAtFirst() {
        GoreGlobe globe = new GoreGlobe();
        for (int place = 0; place < 266; place++) {
            due("2: no land, place " + place, globe.place(Check.rowOf(place), Check.stepOf(place), 1), 0);
        }
        due("13: no land", globe.count(3), 0);
        due("13: one sea", globe.count(4), 1);
        due("8: it has all", globe.sea(0, 0), 266);
        due("8: from pole", globe.sea(0, 1), 0);
        due("8: to pole", globe.sea(0, 2), 265);
    }

    /** LAND alone: no sea, no way, none of the strips may be lost. */
    private static void landAlone() {
        GoreGlobe globe = globeOf(Check.ALL);
        due("13: all are land", globe.count(3), 266);
        due("13: no sea", globe.count(4), 0);
        for (int what = 0; what <= 2; what++) {
            due("8: no sea 0", globe.sea(0, what), BAD);
            due("7: no way to a neighbour", globe.way(121, 122, what), NONE);
            due("7: no way to itself", globe.way(121, 121, what), NONE);
            due("7: no way from pole to pole", globe.way(0, 265, what), NONE);
        }
        due("2: a place has no sea", globe.place(0, 0, 2), NONE);
        due("2: a pole has no sea", globe.place(-6, 9, 2), NONE);
        due("13: all but the poles are on strips", globe.count(5), 264);
        globe.tell(2, 0);
        due("13: all are on strips", globe.count(5), 266);
        due("12: all strips are needed", globe.lost(5, 0), 1);
        due("12: all strips are needed", globe.lost(5, 1), 4096);
    }

    private static void allButOne() {
        int[] ones = {0, 1, 24, 121, 264, 265};
        for (int one : ones) {
            GoreGlobe globe = globeOf(Check.ALL);
            due("14: one is sea", globe.land(one, 0), 265);
            due("13: one sea", globe.count(4), 1);
            due("8: of one place", globe.sea(0, 0), 1);
            due("8: its least", globe.sea(0, 1), one);
            due("8: its greatest", globe.sea(0, 2), one);
            due("2: its sea", globe.place(Check.rowOf(one), Check.stepOf(one), 2), 0);
            due("7: to itself", globe.way(one, one, 0), 0);
            due("7: to itself, steps", globe.way(one, one, 1), 0);
            due("7: to itself, no first step", globe.way(one, one, 2), NONE);
        }
    }

    /** "SEA PLACES that hang together by NEIGHBOURS, numbered by their least PLACE". */
    private static void seasByNeighboursAlone() {
        GoreGlobe globe = globeOf("-1:0-23;0:0-21;1:0-23");
        due("8: 22 and 23 of a row between", globe.sea(1, 0), 2);
        globe.land(121, 0);
        due("8: 23 hangs together with 0", globe.sea(1, 0), 3);
        due("8: its least", globe.sea(1, 1), 121);
        due("8: its greatest", globe.sea(1, 2), 144);
        due("8: north of it is the third", globe.place(2, 0, 2), 2);
        due("8: south of it is the first", globe.place(-2, 0, 2), 0);
        globe = globeOf("5:1-23;4:0;-5:1-23;-4:0");
        due("8: a pole and one of the row beside it", globe.sea(0, 0), 2);
        due("8: the south pole's least", globe.sea(0, 1), 0);
        due("8: the south pole's greatest", globe.sea(0, 2), 1);
        due("8: the north pole's least", globe.sea(2, 1), 241);
        due("8: the north pole's greatest", globe.sea(2, 2), 265);
        due("8: all else", globe.sea(1, 0), 266 - 4 - 46 - 2);
        globe = globeOf("-5:0-2,4-23;-4:3");
        due("8: askew is no neighbour", globe.count(4), 2);
        due("8: a pole and 3 of its row", globe.sea(0, 0), 2);
        globe = globeOf("-6:0;-5:0-2,4-23;-4:3");
        due("8: one alone", globe.sea(0, 0), 1);
        due("8: its place", globe.sea(0, 1), 4);
        // Row -5 is cut at 2 and 12: the pole alone hangs its two parts together.
        globe = globeOf("-5:2,12;-4:0-23");
        due("8: a pole hangs all of its row together", globe.sea(0, 0), 23);
        globe = globeOf("-6:0;-5:2,12;-4:0-23");
        due("8: without the pole there are two", globe.count(4), 3);
        due("8: from 13 over 23 to 1", globe.sea(0, 0), 13);
        due("8: its least", globe.sea(0, 1), 1);
        due("8: its greatest", globe.sea(0, 2), 24);
        due("8: from 3 to 11", globe.sea(1, 0), 9);
        due("8: its least", globe.sea(1, 1), 4);
    }

    /** Every second place is land, and both poles are: 132 seas of one place each. */
    private static void asManySeasAsMayBe() {
        GoreGlobe globe = new GoreGlobe();
        globe.land(0, 1);
        globe.land(265, 1);
        for (int l = -5; l <= 5; l++) {
            for (int m = 0; m < 24; m++) {
                if ((l + m) % 2 == 0) {
                    globe.land(Check.number(l, m), 1);
                }
            }
        }
        due("13: 132 seas", globe.count(4), 132);
        due("8: the first", globe.sea(0, 1), 1);
        due("8: the last", globe.sea(131, 1), 263);
        due("8: the last has one", globe.sea(131, 0), 1);
        due("8: none behind the last", globe.sea(132, 0), BAD);
        due("2: the last sea's number", globe.place(5, 22, 2), 131);
        due("2: beside it is land", globe.place(5, 23, 2), NONE);
        due("7: no way askew", globe.way(1, 26, 0), NONE);
    }

    private static void seaIsBad() {
        GoreGlobe globe = globeOf("0:0-23");
        for (int what = 0; what <= 2; what++) {
            CHECK.holds("8: the last one", globe.sea(1, what) >= 0);
            for (int k : new int[] {MIN, -1, 2, MAX}) {
                due("8: sea " + k, globe.sea(k, what), BAD);
            }
        }
        for (int what : new int[] {MIN, -1, 3, MAX}) {
            due("8: what " + what, globe.sea(0, what), BAD);
        }
    }

    private static void wayIsBad() {
        GoreGlobe globe = new GoreGlobe();
        for (int what = 0; what <= 2; what++) {
            for (int place : BEYOND) {
                due("7: from " + place, globe.way(place, 0, what), BAD);
                due("7: to " + place, globe.way(0, place, what), BAD);
                due("7: from and to " + place, globe.way(place, place, what), BAD);
            }
        }
        for (int what : new int[] {MIN, -1, 3, MAX}) {
            due("7: what " + what, globe.way(0, 265, what), BAD);
        }
    }

    private static void way(String told, GoreGlobe globe, int from, int to, int far, int steps, int first) {
        due("7: FAR, " + told, globe.way(from, to, 0), far);
        due("7: steps, " + told, globe.way(from, to, 1), steps);
        due("7: first, " + told, globe.way(from, to, 2), first);
    }

    /** "2 the least PLACE that one of these ways comes to first (NONE: no step)". */
    private static void wayWithoutStep() {
        GoreGlobe globe = new GoreGlobe();
        for (int place : new int[] {0, 1, 24, 121, 144, 264, 265}) {
            way("no step at " + place, globe, place, place, 0, 0, NONE);
        }
        way("one step from a pole", globe, 0, 24, 120, 1, 24);
        way("one step to a pole", globe, 241, 265, 120, 1, 265);
    }

    /** "WAYS go from SEA PLACE to NEIGHBOUR, by SEA alone"; "NONE: there is no WAY". */
    private static void wayByLand() {
        GoreGlobe globe = globeOf("-6:0;0:3,5;6:0");
        for (int what = 0; what <= 2; what++) {
            due("7: from land", globe.way(124, 123, what), NONE);
            due("7: to land", globe.way(123, 124, what), NONE);
            due("7: from a pole that is land", globe.way(0, 1, what), NONE);
            due("7: to a pole that is land", globe.way(264, 265, what), NONE);
            due("7: from land to land", globe.way(124, 126, what), NONE);
            due("7: from land to itself", globe.way(124, 124, what), NONE);
        }
        way("not over the pole", globe, 1, 13, 372, 12, 2);
        globe = globeOf("-5:0-23");
        way("a pole shut in, to itself", globe, 0, 0, 0, 0, NONE);
        due("7: out of a pole shut in", globe.way(0, 25, 0), NONE);
        due("7: into a pole shut in", globe.way(265, 0, 0), NONE);
    }

    /** "m and m and 1 (23 and 0) of a row". */
    private static void wayAround23And0() {
        GoreGlobe globe = new GoreGlobe();
        for (int l = -5; l <= 5; l++) {
            int first = Check.number(l, 0);
            int last = Check.number(l, 23);
            int far = globe.pair(last, first, 0);
            way("eastwards over 0, row " + l, globe, last, first, far, 1, first);
            way("westwards over 0, row " + l, globe, first, last, far, 1, last);
        }
        globe = globeOf("-1:0-23;1:0-23");
        way("a row between two walls, over 0", globe, 122, 143, 360, 3, 121);
        way("a row between two walls, half around", globe, 121, 133, 1440, 12, 122);
        globe.land(144, 1);
        way("a row between two walls, cut at 23", globe, 121, 143, 2640, 22, 122);
    }

    /** "a POLE and all of the row beside it". */
    private static void wayOverPoles() {
        GoreGlobe globe = new GoreGlobe();
        // Row 5 at U 60: 31 a step; 240 over the pole: 8 steps around are 248, 7 are 217.
        way("7 around, north", globe, 241, 248, 217, 7, 242);
        way("8 over the pole, north", globe, 241, 249, 240, 2, 265);
        way("17 eastwards are 7 westwards", globe, 241, 258, 217, 7, 264);
        way("16 eastwards, over the pole", globe, 241, 257, 240, 2, 265);
        way("7 around, south", globe, 1, 8, 217, 7, 2);
        way("8 over the pole, south", globe, 1, 9, 240, 2, 0);
        globe.land(265, 1);
        way("8 around, the pole being land", globe, 241, 249, 248, 8, 242);
        way("half around, the pole being land", globe, 241, 253, 372, 12, 242);
    }

    /** "the SHORTEST: FAR of all, of like ones that of the fewest steps". */
    private static void waysThatAreLike() {
        // U 10, row 5: 5 a step, 40 over the pole: 8 steps around are 40, too.
        GoreGlobe globe = Check.told(10, 12, 1);
        way("of like ones the fewest steps", globe, 241, 249, 40, 2, 265);
        way("shorter, though more steps", globe, 241, 248, 35, 7, 242);
        way("9 around are 45", globe, 241, 250, 40, 2, 265);
        globe.land(265, 1);
        way("8 around", globe, 241, 249, 40, 8, 242);
        // U 10, rows 4 and 5: 10 and 5 a step: 8 steps in row 4 are 80, over row 5 they are 40, to it and back 40 more.
        way("in row 4, or over row 5: the fewest steps", globe, 217, 225, 80, 8, 218);
        way("9 steps: 85 over row 5 are less than 90", globe, 217, 226, 85, 11, 241);
    }

    /** "the least PLACE that one of these ways comes to first". */
    private static void firstPlaceOfLikeWays() {
        GoreGlobe globe = new GoreGlobe();
        way("from a pole, 24 ways", globe, 0, 265, 1440, 12, 1);
        way("from the other pole, 24 ways", globe, 265, 0, 1440, 12, 241);
        globe.land(1, 1);
        way("from a pole, 0 being land", globe, 0, 265, 1440, 12, 2);
        globe.land(242, 1);
        way("from a pole, 1 being land at the end", globe, 0, 265, 1440, 12, 3);
        globe = globeOf("-1:0-23;1:0-23");
        way("eastwards or westwards, from 0", globe, 121, 133, 1440, 12, 122);
        way("eastwards or westwards, from 23", globe, 144, 132, 1440, 12, 121);
        way("eastwards or westwards, from 5", globe, 126, 138, 1440, 12, 125);
        // A wall between 20 and 23: from 0, 21 to 4, 23 it is as far, by as many steps, as to 5, 20 beside the pole.
        globe = globeOf("1:21-22;2:21-22;3:21-22;4:21-22;5:21-22");
        way("no place but a neighbour comes first", globe, 265, 142, 840, 7, 261);
        GoreGlobe like = Check.told(10, 12, 1);
        // Row 0 is 20 a step, as between rows; over row 1 or -1 it is 19 a step and 40 more.
        way("in the row", like, 121, 122, 20, 1, 122);
        way("39 steps of 20 and 19", like, 121, 146, 39, 2, 145);
        way("to the row south", like, 121, 98, 39, 2, 97);
    }

    /** The winding way that a sea of one place's width makes: 9 bits must hold its steps. */
    private static void longestWay() {
        GoreGlobe globe = globeOf("-4:1-23;-2:0-22;0:1-23;2:0-22;4:1-23;-6:0;6:0");
        for (int row : new int[] {-5, -3, -1, 1, 3, 5}) {
            globe.land(Check.number(row, 12), 1);
        }
        // Each row is shut at 12: from row to row by 0 and 23 in turn, which lie side by side.
        due("7: from row to row", globe.way(Check.number(-5, 0), Check.number(5, 23), 1), 10 + 5);
        GoreGlobe wound = globeOf("-4:2-23;-2:0-21,23;0:2-23;2:0-21,23;4:2-23;-6:0;6:0");
        for (int row : new int[] {-5, -3, -1, 1, 3, 5}) {
            wound.land(Check.number(row, 0), 1);
        }
        wound.land(Check.number(-4, 0), 1);
        wound.land(Check.number(0, 0), 1);
        wound.land(Check.number(4, 0), 1);
        // Rows -5, -3, -1, 1, 3, 5 from 1 to 23 with gaps at 1 or 22 in turn.
        int steps = 10 + 6 * 21;
        due("7: steps of a wound way", wound.way(Check.number(-5, 22), Check.number(5, 22), 1), steps);
        int[] far = {115, 84, 31};
        due("7: FAR of a wound way", wound.way(Check.number(-5, 22), Check.number(5, 22), 0),
            10 * 120 + 2 * 21 * (far[0] + far[1] + far[2]));
        due("7: first of a wound way", wound.way(Check.number(-5, 22), Check.number(5, 22), 2), Check.number(-5, 21));
    }

    /** "up to 8 PLACES (none at first), one behind the other, the same again, too". */
    private static void stopsFromNoneTo8() {
        GoreGlobe globe = new GoreGlobe();
        for (int many = 0; many <= 8; many++) {
            due("10: how many", globe.route(0), many);
            for (int i = 0; i < 10; i++) {
                due("9: stop " + i + " of " + many, globe.stop(i), i < many ? 265 - i / 2 : NONE);
            }
            due("9: stop " + MAX, globe.stop(MAX), NONE);
            due("9: stop -1", globe.stop(-1), BAD);
            due("9: stop " + MIN, globe.stop(MIN), BAD);
            due("16: add to " + many, globe.add(265 - many / 2), many < 8 ? many + 1 : GoreGlobe.FULL);
        }
    }

    /** "Its LENGTH: SHORTEST ways from each to the next (0 with less than two)". */
    private static void lengthOfNoneOneAndEight() {
        GoreGlobe globe = new GoreGlobe();
        due("10: none", globe.route(1), 0);
        globe.land(0, 1);
        due("10: none, a pole being land", globe.route(1), 0);
        globe.add(0);
        due("10: one, though it is land", globe.route(1), 0);
        globe.land(0, 0);
        globe.add(0);
        due("10: the same twice", globe.route(1), 0);
        for (int i = 2; i < 8; i++) {
            globe.add(i % 2 == 0 ? 265 : 0);
            due("10: from pole to pole", globe.route(1), 1440 * (i - 1));
        }
        globe.tell(0, 200);
        due("10: by the greatest U", globe.route(1), 6 * 4800);
        for (int what : new int[] {MIN, -1, 2, MAX}) {
            due("10: what " + what, globe.route(what), BAD);
        }
    }

    /** "(NONE: somewhere is no WAY)": at the first step, the last one, or between. */
    private static void lengthWithoutWay() {
        for (int shut = 0; shut < 8; shut++) {
            GoreGlobe globe = globeOf("5:0-23");
            for (int i = 0; i < 8; i++) {
                globe.add(i == shut ? 265 : i);
            }
            due("10: no way to stop " + shut, globe.route(1), NONE);
            due("10: how many all the same", globe.route(0), 8);
            for (int v : new int[] {1, 2, 3, 4, 10000}) {
                due("11: no length to turn " + v, globe.rolled(v, 0), NONE);
                due("11: no length over " + v, globe.rolled(v, 1), NONE);
            }
            globe.out(265);
            CHECK.holds("10: a length without it", globe.route(1) > 0);
        }
    }

    /** "A wheel of v (1 .. 10000) around". */
    private static void wheelAndItsEdges() {
        GoreGlobe globe = new GoreGlobe();
        due("11: no stop", globe.rolled(1, 0), 0);
        due("11: no stop", globe.rolled(10000, 1), 0);
        globe.add(5);
        due("11: one stop", globe.rolled(10000, 0), 0);
        due("11: one stop", globe.rolled(1, 1), 0);
        globe.tell(0, 200);
        globe.add(265);
        globe.add(0);
        globe.add(265);
        // From 5 to the north pole 11 rows, then 12 and 12: 35 times 400.
        int[] v = {1, 2, 3, 9999, 10000};
        int[] turns = {14000, 7000, 4666, 1, 1};
        int[] over = {0, 0, 2, 4001, 4000};
        for (int i = 0; i < v.length; i++) {
            due("11: turns of " + v[i], globe.rolled(v[i], 0), turns[i]);
            due("11: over of " + v[i], globe.rolled(v[i], 1), over[i]);
        }
        for (int bad : new int[] {MIN, -1, 0, 10001, MAX}) {
            due("11: v " + bad, globe.rolled(bad, 0), BAD);
            due("11: v " + bad, globe.rolled(bad, 1), BAD);
            due("11: what " + (bad == 0 ? 2 : bad), globe.rolled(1, bad == 0 ? 2 : bad), BAD);
        }
    }

    private static void lost(String told, GoreGlobe globe, int c, long above, long below) {
        due("12: above, " + told, globe.lost(c, 0), above);
        due("12: below, " + told, globe.lost(c, 1), below);
    }

    /** "LOST by c of 10 (0 .. 10)". */
    private static void lostByNothingAndAll() {
        for (int n : Check.NUMBERS) {
            GoreGlobe globe = Check.told(60, n, 0);
            for (int c = 0; c <= 10; c++) {
                lost("no land, c " + c + ", n " + n, globe, c, 1, 1);
            }
            Check.read(globe, "0:1");
            lost("c 0, n " + n, globe, 0, 1, 1);
            lost("c 1, n " + n, globe, 1, 9, 10);
            lost("c 9, n " + n, globe, 9, 1, 10);
            lost("c 10, n " + n, globe, 10, 0, 1);
            Check.read(globe, Check.ALL);
            lost("land alone, c 0, n " + n, globe, 0, 1, 1);
            lost("land alone, c 5, n " + n, globe, 5, 1, 1L << n);
            lost("land alone, c 10, n " + n, globe, 10, 0, 1);
            for (int bad : new int[] {MIN, -1, 11, MAX}) {
                due("12: c " + bad, globe.lost(bad, 0), BAD);
                due("12: c " + bad, globe.lost(bad, 1), BAD);
            }
            for (int bad : new int[] {MIN, -1, 2, MAX}) {
                due("12: what " + bad, globe.lost(5, bad), BAD);
            }
        }
    }

    /** "is on one that is left (its TWIN's, too"; the first strip's twin is on the last one. */
    private static void lostByTwins() {
        for (int n : Check.NUMBERS) {
            int w = 24 / n;
            for (int m = 0; m < 24; m++) {
                GoreGlobe globe = Check.told(60, n, 1);
                globe.land(121 + m, 1);
                boolean isCut = m % w == 0;
                lost("m " + m + ", n " + n, globe, 5, isCut ? 3 : 1, isCut ? 4 : 2);
                // It is on a strip with the one west of it, by its twin if it is cut: this strip alone is needed.
                globe.land(121 + (m + 23) % 24, 1);
                lost("m " + m + " and west of it, n " + n, globe, 5, 1, 2);
            }
            GoreGlobe twice = Check.told(60, n, 1);
            Check.read(twice, "0:0;1:0");
            lost("two that are cut alike, n " + n, twice, 5, 3, 4);
            Check.read(twice, "0:1;1:1");
            lost("two on one strip, n " + n, twice, 5, 1, 2);
            GoreGlobe ring = Check.told(60, n, 1);
            for (int m = 0; m < 24; m += w) {
                ring.land(121 + m, 1);
            }
            // No two strips side by side are lost, all around: n 2, 3, 4, 6, 8, 12 leave 3, 4, 7, 18, 47, 322 ways.
            long[] ways = {3, 4, 7, 18, 47, 322};
            int[] of = {4, 8, 16, 64, 256, 4096};
            for (int i = 0; i < 6; i++) {
                if (Check.NUMBERS[i] == n) {
                    due("12: all that are cut, n " + n, ring.lost(5, 0) * (of[i] / ring.lost(5, 1)), ways[i]);
                }
            }
        }
    }

    /** "a POLE: on any". */
    private static void lostByPoles() {
        for (int n : Check.NUMBERS) {
            GoreGlobe globe = Check.told(60, n, 0);
            Check.read(globe, "6:0");
            lost("north pole, n " + n, globe, 5, (1L << n) - 1, 1L << n);
            lost("north pole, all lost", globe, 10, 0, 1);
            lost("north pole, none lost", globe, 0, 1, 1);
            Check.read(globe, "-6:0");
            lost("south pole, n " + n, globe, 5, (1L << n) - 1, 1L << n);
            Check.read(globe, "6:0;-6:0");
            lost("both poles, n " + n, globe, 5, (1L << n) - 1, 1L << n);
            Check.read(globe, "6:0;-6:0;0:0");
            lost("poles and a place that is cut, n " + n, globe, 5, 3, 4);
            Check.read(globe, "6:0;-6:0;0:1");
            lost("poles and a place that isn't, n " + n, globe, 5, 1, 2);
            globe.tell(2, 1);
            Check.read(globe, "6:0;-6:0");
            lost("poles on caps alone, n " + n, globe, 10, 1, 1);
        }
    }

    /** "each LAND PLACE that is on STRIPS". */
    private static void lostBesideCaps() {
        for (int k = 1; k <= 3; k++) {
            GoreGlobe globe = Check.told(60, 12, k);
            int last = 6 - k;
            globe.land(Check.number(last + 1, 1), 1);
            globe.land(Check.number(-last - 1, 3), 1);
            lost("beyond the strips, k " + k, globe, 5, 1, 1);
            globe.land(Check.number(last, 5), 1);
            lost("the last row on strips, k " + k, globe, 5, 1, 2);
            globe.land(Check.number(-last, 7), 1);
            lost("the first row on strips, k " + k, globe, 5, 1, 4);
        }
    }

    /** "a fraction in lowest terms". */
    private static void lostInLowestTerms() {
        GoreGlobe globe = Check.told(60, 12, 1);
        Check.read(globe, "0:0-23");
        lost("9 by 10, 12 times", globe, 1, 282429536481L, 1000000000000L);
        lost("4 by 5, 12 times", globe, 2, 16777216, 244140625);
        lost("1 by 5, 12 times", globe, 8, 1, 244140625);
        lost("1 by 10, 12 times", globe, 9, 1, 1000000000000L);
        lost("7 by 10, 12 times", globe, 3, 13841287201L, 1000000000000L);
        globe.tell(1, 2);
        lost("4 by 5, twice", globe, 2, 16, 25);
        lost("3 by 5, twice", globe, 4, 9, 25);
    }

    private static void countIsBad() {
        GoreGlobe globe = new GoreGlobe();
        for (int what = 0; what <= 6; what++) {
            CHECK.holds("13: what " + what, globe.count(what) >= 0);
        }
        for (int what : new int[] {MIN, -1, 7, MAX}) {
            due("13: what " + what, globe.count(what), BAD);
        }
    }

    /** "3 LAND PLACES", "5 LAND PLACES on STRIPS". */
    private static void countLandOnStrips() {
        GoreGlobe globe = globeOf(Check.ALL);
        int[] onStrips = {266, 264, 216, 168};
        for (int k = 3; k >= 0; k--) {
            globe.tell(2, k);
            due("13: land on strips, k " + k, globe.count(5), onStrips[k]);
            due("13: land, k " + k, globe.count(3), 266);
        }
        globe = new GoreGlobe();
        due("13: no land", globe.count(5), 0);
    }
}
