/** Promises 1 to 6, by numbers worked out from the document. */
final class PlacesTest {
    private static final int BAD = GoreGlobe.BAD, NOT = GoreGlobe.NOT, NONE = GoreGlobe.NONE;
    private static final Check CHECK = new Check();

    public static void main(String[] args) {
        promise1();
        promise2();
        promise3();
        promise3Caps();
        promise4Strips();
        promise4Caps();
        promise5();
        promise5Straight();
        promise6();
        CHECK.end();
    }

    private static void due(String call, long got, long want) {
        CHECK.due(call, got, want);
    }

    private static void promise1() {
        GoreGlobe globe = new GoreGlobe();
        int[] counts = {60, 12, 1, 0, 1, 0, 0};
        for (int what = 0; what < counts.length; what++) {
            due("1: count " + what, globe.count(what), counts[what]);
        }
        due("1: stops", globe.route(0), 0);
        due("1: the draw", globe.seed(5), 1);
        due("1: no image", globe.restore(), NONE);
        due("1: nothing to undo", globe.undo(), NONE);
        due("1: the tape is empty", globe.read(), -20);
        for (int sheet = 0; sheet < 4; sheet++) {
            due("1: sheet " + sheet, globe.drop(sheet), GoreGlobe.NULL);
        }
        due("1: a second object is its own", new GoreGlobe().seed(5), 1);
    }

    private static void promise2() {
        GoreGlobe globe = new GoreGlobe();
        int next = 1;
        for (int l = -5; l <= 5; l++) {
            for (int m = 0; m < 24; m++) {
                due("2: number of " + l + ", " + m, globe.place(l, m, 0), next);
                next++;
            }
        }
        for (int m = 0; m < 24; m++) {
            due("2: south pole", globe.place(-6, m, 0), 0);
            due("2: north pole", globe.place(6, m, 0), 265);
        }
        globe.land(265, 1);
        globe.land(122, 1);
        due("2: a pole is land by each m", globe.place(6, 17, 1), 1);
        due("2: land", globe.place(0, 1, 1), 1);
        due("2: sea", globe.place(0, 2, 1), 0);
        due("2: land has no sea", globe.place(0, 1, 2), NONE);
        due("2: its sea", globe.place(0, 2, 2), 0);
        placeOnPaper();
        for (int what = 0; what < 5; what++) {
            due("2: l -7", globe.place(-7, 0, what), BAD);
            due("2: l 7", globe.place(7, 0, what), BAD);
            due("2: m -1", globe.place(0, -1, what), BAD);
            due("2: m 24", globe.place(0, 24, what), BAD);
            due("2: m 24 of a pole", globe.place(6, 24, what), BAD);
            due("2: least l", globe.place(Integer.MIN_VALUE, 0, what), BAD);
            due("2: greatest m", globe.place(0, Integer.MAX_VALUE, what), BAD);
        }
        due("2: what -1", globe.place(0, 0, -1), BAD);
        due("2: what 5", globe.place(0, 0, 5), BAD);
    }

    private static void placeOnPaper() {
        int[] numbers = {2, 3, 4, 6, 8, 12};
        int[] stripsOf23 = {1, 2, 3, 5, 7, 11};
        int[] stripsOf11 = {0, 1, 1, 2, 3, 5};
        for (int i = 0; i < 6; i++) {
            GoreGlobe globe = Check.told(60, numbers[i], 0);
            due("2: strip of 23 of " + numbers[i], globe.place(2, 23, 3), stripsOf23[i]);
            due("2: strip of 11 of " + numbers[i], globe.place(-2, 11, 3), stripsOf11[i]);
            due("2: strip of a pole, m being 0", globe.place(6, 23, 3), 0);
        }
        for (int k = 0; k <= 3; k++) {
            GoreGlobe globe = Check.told(60, 12, k);
            for (int l = -6; l <= 6; l++) {
                int high = Math.abs(l);
                due("2: on strips, k " + k + " l " + l, globe.place(l, 0, 3), high <= 6 - k ? 0 : NONE);
                due("2: on a cap, k " + k + " l " + l, globe.place(l, 0, 4), k > 0 && high >= 6 - k ? 1 : 0);
            }
        }
    }

    private static void promise3() {
        GoreGlobe globe = Check.told(200, 2, 0);
        due("3: X", globe.flat(1, 5, 0), 2400 - 386);
        due("3: X of the second strip", globe.flat(-1, 13, 0), 7200 - 1931);
        due("3: X east of the middle", globe.flat(1, 23, 0), 7200 + 1931);
        due("3: Y", globe.flat(-1, 13, 1), 2000);
        due("3: Y of the south pole", globe.flat(-6, 3, 1), 0);
        due("3: Y of the north pole", globe.flat(6, 3, 1), 4800);
        due("3: X of a pole, m being 0", globe.flat(6, 20, 0), 2400);
        due("3: twin of a pole", globe.flat(6, 20, 2), 7200);
        due("3: twin of 12", globe.flat(-1, 12, 2), 2400 + 2318);
        due("3: twin of 0 on the last strip", globe.flat(-1, 0, 2), 7200 + 2318);
        due("3: not cut", globe.flat(-1, 13, 2), NONE);
        due("3: no caps", globe.flat(6, 0, 3), NONE);
        due("3: no caps", globe.flat(6, 0, 4), NONE);
        GoreGlobe odd = Check.told(10, 8, 1);
        due("3: odd width, west", odd.flat(5, 4, 0), 90 - 2);
        due("3: odd width, east", odd.flat(5, 5, 0), 90 + 2);
        due("3: odd width, cut", odd.flat(5, 3, 0), 90 - 7);
        due("3: odd width, twin", odd.flat(5, 3, 2), 30 + 7);
        for (int what = 0; what <= 2; what++) {
            due("3: row not on strips", odd.flat(6, 0, what), NONE);
            due("3: row not on strips", odd.flat(-6, 0, what), NONE);
        }
        for (int what = 3; what <= 4; what++) {
            due("3: row not on a cap", odd.flat(4, 0, what), NONE);
        }
        due("3: l 7", odd.flat(7, 0, 0), BAD);
        due("3: l -7 ahead of NONE", odd.flat(-7, 0, 3), BAD);
        due("3: m 24", odd.flat(0, 24, 0), BAD);
        due("3: m -1", odd.flat(0, -1, 0), BAD);
        due("3: what 5", odd.flat(0, 0, 5), BAD);
        due("3: what -1 ahead of NONE", odd.flat(6, 0, -1), BAD);
    }

    private static void promise3Caps() {
        GoreGlobe globe = Check.told(10, 2, 3);
        due("3: north X of 1", globe.flat(3, 1, 3), 60 + 15);
        due("3: north Y of 1", globe.flat(3, 1, 4), 60 + 57);
        due("3: south X of 1", globe.flat(-3, 1, 3), 60 - 15);
        due("3: south Y of 1", globe.flat(-3, 1, 4), 60 + 57);
        due("3: north X of 13", globe.flat(3, 13, 3), 60 - 15);
        due("3: north Y of 13", globe.flat(3, 13, 4), 60 - 57);
        due("3: south X of 20", globe.flat(-4, 20, 3), 60 + 34);
        due("3: south Y of 20", globe.flat(-4, 20, 4), 60 + 20);
        due("3: pole", globe.flat(-6, 20, 3), 60);
        due("3: pole", globe.flat(6, 20, 4), 60);
        due("3: on strips, too", globe.flat(3, 0, 1), 180);
        due("3: row 2 on no cap", globe.flat(2, 1, 3), NONE);
    }

    private static void promise4Strips() {
        GoreGlobe globe = Check.told(10, 2, 0);
        due("4: west of the row's edge", globe.back(0, 88, 220), NONE);
        due("4: the row's edge", globe.back(0, 89, 220), Check.number(5, 0));
        due("4: the row's eastern edge", globe.back(0, 151, 220), Check.number(5, 12));
        due("4: east of it", globe.back(0, 152, 220), NONE);
        due("4: of like ones the least j", globe.back(0, 10, 120), Check.number(0, 0));
        due("4: closer to the next", globe.back(0, 11, 120), Check.number(0, 1));
        due("4: the second strip begins", globe.back(0, 240, 120), Check.number(0, 12));
        due("4: the last strip's end", globe.back(0, 480, 120), Check.number(0, 0));
        due("4: Y 9 is the south pole's row", globe.back(0, 120, 9), 0);
        due("4: Y 10 is the next one", globe.back(0, 120, 10), Check.number(-5, 6));
        due("4: Y 229", globe.back(0, 120, 229), Check.number(5, 6));
        due("4: Y 230", globe.back(0, 120, 230), 265);
        due("4: the pole on the other strip", globe.back(0, 360, 240), 265);
        due("4: beside the pole", globe.back(0, 361, 240), NONE);
        due("4: X 481", globe.back(0, 481, 120), BAD);
        due("4: Y 241", globe.back(0, 120, 241), BAD);
        due("4: X -1", globe.back(0, -1, 120), BAD);
        due("4: Y -1", globe.back(0, 120, -1), BAD);
        due("4: greatest Y", globe.back(0, 120, Integer.MAX_VALUE), BAD);
        due("4: paper -1", globe.back(-1, 0, 0), BAD);
        due("4: paper 3", globe.back(3, 0, 0), BAD);
        globe.tell(2, 1);
        due("4: the pole's row is on no strip", globe.back(0, 120, 240), NONE);
    }

    private static void promise4Caps() {
        GoreGlobe globe = Check.told(10, 2, 3);
        due("4: north corner", globe.back(1, 0, 0), Check.number(3, 15));
        due("4: south corner", globe.back(2, 0, 0), Check.number(-3, 9));
        due("4: north, of like ones the least", globe.back(1, 60, 70), Check.number(5, 0));
        due("4: south, of like ones the least", globe.back(2, 60, 70), 0);
        due("4: middle", globe.back(1, 60, 60), 265);
        due("4: the end", globe.back(1, 60, 120), Check.number(3, 0));
        due("4: X 121", globe.back(1, 121, 0), BAD);
        due("4: Y 121", globe.back(2, 0, 121), BAD);
        due("4: Y -1", globe.back(2, 0, -1), BAD);
        globe.tell(2, 0);
        due("4: no caps", globe.back(1, 0, 0), NONE);
        due("4: no caps", globe.back(2, 0, 0), NONE);
        due("4: no caps, X 1", globe.back(1, 1, 0), BAD);
        due("4: no caps, Y 1", globe.back(2, 0, 1), BAD);
    }

    private static void promise5() {
        GoreGlobe globe = new GoreGlobe();
        int[] far = {120, 115, 103, 84, 60, 31};
        for (int l = -5; l <= 5; l++) {
            due("5: FAR in row " + l, globe.pair(Check.number(l, 3), Check.number(l, 4), 0), far[Math.abs(l)]);
            due("5: FAR of 23 and 0", globe.pair(Check.number(l, 23), Check.number(l, 0), 0), far[Math.abs(l)]);
        }
        due("5: FAR of rows", globe.pair(Check.number(4, 7), Check.number(5, 7), 0), 120);
        for (int m = 0; m < 24; m++) {
            due("5: FAR of a pole", globe.pair(0, Check.number(-5, m), 0), 120);
            due("5: FAR of a pole", globe.pair(Check.number(5, m), 265, 0), 120);
        }
        for (int what = 0; what <= 1; what++) {
            due("5: itself", globe.pair(121, 121, what), NOT);
            due("5: a pole itself", globe.pair(0, 0, what), NOT);
            due("5: both poles", globe.pair(0, 265, what), NOT);
            due("5: 23 and 0 a row on", globe.pair(24, 25, what), NOT);
            due("5: askew", globe.pair(121, 146, what), NOT);
            due("5: two rows on", globe.pair(121, 169, what), NOT);
            due("5: a pole and the row after next", globe.pair(265, 240, what), NOT);
            due("5: 266", globe.pair(265, 266, what), BAD);
            due("5: -1", globe.pair(-1, 0, what), BAD);
        }
        due("5: what 2", globe.pair(121, 122, 2), BAD);
        due("5: what -1 ahead of NOT", globe.pair(121, 121, -1), BAD);
    }

    private static void promise5Straight() {
        GoreGlobe odd = Check.told(60, 8, 1);
        due("5: STRAIGHT west", odd.pair(Check.number(5, 0), Check.number(5, 1), 1), 31);
        due("5: STRAIGHT middle", odd.pair(Check.number(5, 1), Check.number(5, 2), 1), 30);
        due("5: STRAIGHT middle, turned", odd.pair(Check.number(5, 2), Check.number(5, 1), 1), 30);
        due("5: STRAIGHT 23, 0", odd.pair(Check.number(5, 23), Check.number(5, 0), 1), 31);
        due("5: STRAIGHT 0, 23", odd.pair(Check.number(5, 0), Check.number(5, 23), 1), 31);
        due("5: a pole's row isn't on strips", odd.pair(265, Check.number(5, 0), 1), NONE);
        due("5: NOT ahead of NONE", odd.pair(265, 0, 1), NOT);
        GoreGlobe wide = Check.told(60, 2, 0);
        due("5: STRAIGHT of rows", wide.pair(121, 145, 1), 122);
        due("5: STRAIGHT of a pole, at the edge", wide.pair(265, Check.number(5, 0), 1), 221);
        due("5: STRAIGHT of a pole, in the middle", wide.pair(265, Check.number(5, 18), 1), 120);
        due("5: STRAIGHT of a pole, last", wide.pair(Check.number(5, 23), 265, 1), 196);
        due("5: STRAIGHT of the south pole, last", wide.pair(0, Check.number(-5, 23), 1), 196);
        wide.tell(2, 3);
        due("5: rows 3, 4", wide.pair(Check.number(3, 0), Check.number(4, 0), 1), NONE);
        due("5: row 4", wide.pair(Check.number(4, 0), Check.number(4, 1), 1), NONE);
        due("5: rows 2, 3", wide.pair(Check.number(2, 6), Check.number(3, 6), 1), 120);
    }

    private static void worst(String told, GoreGlobe globe, int off, int lesser, int greater) {
        due("6: OFF, " + told, globe.worst(0), off);
        due("6: lesser, " + told, globe.worst(1), lesser);
        due("6: greater, " + told, globe.worst(2), greater);
    }

    private static void promise6() {
        worst("at first", new GoreGlobe(), 3, 1, 25);
        worst("2 strips, no caps", Check.told(60, 2, 0), 101, 0, 1);
        worst("12 strips, 3 caps", Check.told(60, 12, 3), 1, 49, 73);
        worst("8 strips, 3 caps", Check.told(60, 8, 3), 3, 49, 73);
        worst("all are like", Check.told(10, 12, 3), 0, 49, 50);
        due("6: -1", new GoreGlobe().worst(-1), BAD);
        due("6: 3", new GoreGlobe().worst(3), BAD);
    }
}
