/** Part 3 of the document's terms, and promises 14 to 25: each sentence that names an edge, at that edge. */
final class DoneEdgesTest {
    private static final int BAD = GoreGlobe.BAD, NOT = GoreGlobe.NOT, FULL = GoreGlobe.FULL, NONE = GoreGlobe.NONE;
    private static final int MIN = Integer.MIN_VALUE, MAX = Integer.MAX_VALUE;
    private static final int[] BEYOND = {MIN, -1, 266, MAX};
    private static final Check CHECK = new Check();

    private interface Doing {
        void on(GoreGlobe globe);
    }

    public static void main(String[] args) {
        landOfEachPlace();
        landIsBad();
        tellAllNumbers();
        addUpTo8();
        outWhereverItStands();
        reverseOfFewAndMany();
        typeEachLetter();
        type90Letters();
        whatMayStandWhere();
        whereTextsMayEnd();
        rowsOfTexts();
        numbersOfTexts();
        runsOfTexts();
        blanksInTexts();
        longestTexts();
        faultLeavesAllElse();
        textsTellAllLand();
        driftTurns();
        drawsAtTheirEdges();
        seedIsBad();
        undoOneAfterAnother();
        undoEachKind();
        undoWhateverWasToldSince();
        whatCannotBeUndone();
        imageOfNothingAndOfAll();
        restoreAgain();
        usedFor512Calls();
        CHECK.end();
    }

    private static void due(String call, long got, long want) {
        CHECK.due(call, got, want);
    }

    /** All that an image keeps, but for what may be undone: some 290 calls. */
    private static String all(GoreGlobe globe) {
        StringBuilder all = new StringBuilder();
        for (int what = 0; what <= 6; what++) {
            all.append(globe.count(what)).append(' ');
        }
        for (int i = 0; i < 8; i++) {
            all.append(globe.stop(i)).append(' ');
        }
        int draw = globe.seed(1);
        globe.seed(draw);
        all.append(draw).append(' ');
        for (int place = 0; place < 266; place++) {
            all.append(globe.place(Check.rowOf(place), Check.stepOf(place), 1));
        }
        return all.toString();
    }

    private static void same(String told, GoreGlobe globe, GoreGlobe other) {
        String one = all(globe);
        String two = all(other);
        CHECK.holds(told + ": " + one + " is " + two, one.equals(two));
    }

    /** "A PLACE (by its number) becomes SEA (v 0), LAND (1) .. NOT: it is so". */
    private static void landOfEachPlace() {
        GoreGlobe globe = new GoreGlobe();
        for (int place = 0; place < 266; place += 5) {
            int l = Check.rowOf(place);
            int m = Check.stepOf(place);
            due("14: it is sea, " + place, globe.land(place, 0), NOT);
            due("14: it becomes land, " + place, globe.land(place, 1), 1);
            due("14: it is land, " + place, globe.land(place, 1), NOT);
            due("14: it is, " + place, globe.place(l, m, 1), 1);
            due("14: it becomes sea, " + place, globe.land(place, 0), 0);
            due("14: it is no more, " + place, globe.place(l, m, 1), 0);
        }
        globe = new GoreGlobe();
        for (int place = 0; place < 266; place++) {
            due("14: how many are land then", globe.land(place, 1), place + 1);
        }
    }

    private static void landIsBad() {
        GoreGlobe globe = new GoreGlobe();
        for (int v = 0; v <= 1; v++) {
            for (int place : BEYOND) {
                due("14: place " + place, globe.land(place, v), BAD);
            }
        }
        for (int v : new int[] {MIN, -1, 2, MAX}) {
            due("14: v " + v, globe.land(0, v), BAD);
            due("14: v " + v, globe.land(265, v), BAD);
        }
        due("14: nothing became land", globe.count(3), 0);
        due("14: nothing may be undone", globe.count(6), 0);
    }

    /** "U (10 .. 200 ..), STRIPS n (2, 3, 4, 6, 8 or 12 ..), CAPS k (0 .. 3 ..)". */
    private static void tellAllNumbers() {
        int[] first = {60, 12, 1};
        for (int what = 0; what <= 2; what++) {
            for (int v = -30; v <= 230; v++) {
                boolean isGood = what == 0 ? v >= 10 && v <= 200
                    : what == 1 ? v == 2 || v == 3 || v == 4 || v == 6 || v == 8 || v == 12 : v >= 0 && v <= 3;
                GoreGlobe globe = new GoreGlobe();
                int answer = !isGood ? BAD : v == first[what] ? NOT : first[what];
                due("15: " + what + " becomes " + v, globe.tell(what, v), answer);
                due("15: " + what + " is then", globe.count(what), isGood ? v : first[what]);
                due("15: the others stay", globe.count((what + 1) % 3), first[(what + 1) % 3]);
                due("15: the others stay", globe.count((what + 2) % 3), first[(what + 2) % 3]);
                due("15: what may be undone", globe.count(6), answer >= 0 ? 1 : 0);
            }
            due("15: least", new GoreGlobe().tell(what, MIN), BAD);
            due("15: greatest", new GoreGlobe().tell(what, MAX), BAD);
        }
        for (int what : new int[] {MIN, -1, 3, MAX}) {
            due("15: what " + what, new GoreGlobe().tell(what, 12), BAD);
        }
    }

    private static GoreGlobe routed(int... stops) {
        GoreGlobe globe = new GoreGlobe();
        for (int stop : stops) {
            globe.add(stop);
        }
        return globe;
    }

    private static void stops(String told, GoreGlobe globe, int... stops) {
        due(told + ", how many", globe.route(0), stops.length);
        for (int i = 0; i <= 8; i++) {
            due(told + ", stop " + i, globe.stop(i), i < stops.length ? stops[i] : NONE);
        }
    }

    /** "A PLACE comes behind THE ROUTE: how many it has. BAD; FULL: 8". */
    private static void addUpTo8() {
        GoreGlobe globe = new GoreGlobe();
        globe.land(0, 1);
        int[] stops = {0, 0, 265, 264, 1, 24, 121, 0};
        for (int i = 0; i < 8; i++) {
            for (int place : BEYOND) {
                due("16: add " + place + " to " + i, globe.add(place), BAD);
            }
            due("16: stop " + i + ", land or sea", globe.add(stops[i]), i + 1);
        }
        due("16: the ninth", globe.add(0), FULL);
        due("16: the ninth again", globe.add(265), FULL);
        stops("16: all 8", globe, stops);
        due("17: three of them out", globe.out(0), 3);
        for (int i = 6; i <= 8; i++) {
            due("16: there is room again", globe.add(7), i);
        }
        due("16: and none any more", globe.add(7), FULL);
    }

    /** "A PLACE is out of THE ROUTE, wherever it stands: how many times it stood there. BAD; NONE: nowhere". */
    private static void outWhereverItStands() {
        due("17: of no stop", new GoreGlobe().out(0), NONE);
        GoreGlobe globe = routed(7, 7, 7, 7, 7, 7, 7, 7);
        due("17: another one", globe.out(8), NONE);
        due("17: all 8", globe.out(7), 8);
        stops("17: none is left", globe);
        due("17: nowhere then", globe.out(7), NONE);
        globe = routed(7, 1, 2, 7);
        due("17: first and last", globe.out(7), 2);
        stops("17: what is between", globe, 1, 2);
        globe = routed(0, 265);
        due("17: the first", globe.out(0), 1);
        stops("17: the second", globe, 265);
        globe = routed(0, 265);
        due("17: the last", globe.out(265), 1);
        stops("17: the first stays", globe, 0);
        globe = routed(5, 6, 6, 5, 6, 5, 5, 6);
        due("17: four of eight", globe.out(6), 4);
        stops("17: the other four", globe, 5, 5, 5, 5);
        for (int place : BEYOND) {
            due("17: " + place, globe.out(place), BAD);
        }
    }

    /** "THE ROUTE is REVERSED: its first PLACE then. NOT: it has less than two". */
    private static void reverseOfFewAndMany() {
        due("18: none", new GoreGlobe().reverse(), NOT);
        GoreGlobe globe = routed(9);
        due("18: one", globe.reverse(), NOT);
        stops("18: one stays", globe, 9);
        globe = routed(9, 0);
        due("18: two", globe.reverse(), 0);
        stops("18: two turned", globe, 0, 9);
        globe = routed(1, 2, 3, 4, 5, 6, 7);
        due("18: seven", globe.reverse(), 7);
        stops("18: seven turned", globe, 7, 6, 5, 4, 3, 2, 1);
        globe = routed(1, 2, 3, 4, 5, 6, 7, 265);
        due("18: eight", globe.reverse(), 265);
        stops("18: eight turned", globe, 265, 7, 6, 5, 4, 3, 2, 1);
        due("18: eight and back", globe.reverse(), 1);
        stops("18: eight turned back", globe, 1, 2, 3, 4, 5, 6, 7, 265);
        globe = routed(4, 4);
        due("18: two that are like", globe.reverse(), 4);
        due("18: this may be undone, too", globe.count(6), 3);
    }

    /** "BAD: not 32 .. 126". */
    private static void typeEachLetter() {
        for (int letter = -2; letter <= 300; letter++) {
            boolean isGood = letter >= 32 && letter <= 126;
            due("19: letter " + letter, new GoreGlobe().type(letter), isGood ? 1 : BAD);
        }
        due("19: least", new GoreGlobe().type(MIN), BAD);
        due("19: greatest", new GoreGlobe().type(MAX), BAD);
        due("19: 48 and 65536", new GoreGlobe().type(48 + 65536), BAD);
    }

    /** "One letter more behind THE TAPE: how many it has .. FULL: 90". */
    private static void type90Letters() {
        GoreGlobe globe = new GoreGlobe();
        for (int round = 0; round < 2; round++) {
            for (int i = 1; i <= 90; i++) {
                due("19: letter " + i, globe.type(' '), i);
                due("19: a refused one isn't typed", globe.type(127), BAD);
            }
            due("19: the 91st", globe.type(' '), FULL);
            due("19: the 91st again", globe.type('1'), FULL);
            due("20: the end of 90", globe.read(), -110);
        }
        due("19: empty then", globe.type(' '), 1);
    }

    private static int read(String text) {
        return Check.read(new GoreGlobe(), text);
    }

    /** Which letters can stand behind a text; asNumber: figures that make its last figure a number above 23. */
    private static void mayStand(String text, String letters, String asNumber) {
        for (char letter = 32; letter <= 126; letter++) {
            int answer = read(text + letter);
            String told = "20: '" + text + "' and '" + letter + "'";
            if (letters.indexOf(letter) >= 0) {
                CHECK.holds(told + " may stand: " + answer, answer >= 0 || answer == -20 - text.length() - 1);
            } else {
                due(told, answer, -20 - text.length() + (asNumber.indexOf(letter) >= 0 ? 1 : 0));
            }
        }
    }

    /** "ROWS, one at least, with ; between: perhaps - , a figure 0 .. 6 (l), : , RUNS with , between: a number ..". */
    private static void whatMayStandWhere() {
        String figures = "0123456789";
        for (String ahead : new String[] {"", " ", "1:1;", "1:1;  ", "-6:0-23 ; "}) {
            mayStand(ahead, " -0123456", "");
            mayStand(ahead + "-", " 0123456", "");
            mayStand(ahead + "- ", " 0123456", "");
            mayStand(ahead + "0", " :", "");
            mayStand(ahead + "-6", " :", "");
            mayStand(ahead + "1 ", " :", "");
            for (String run : new String[] {"1:", "1: ", "1 :", "-0:5,", "6:5-7, "}) {
                mayStand(ahead + run, " " + figures, "");
                mayStand(ahead + run + "0", " -,;" + figures, "");
                mayStand(ahead + run + "1", " -,;" + figures, "");
                mayStand(ahead + run + "2", " -,;0123", "456789");
                mayStand(ahead + run + "3", " -,;", figures);
                mayStand(ahead + run + "9", " -,;", figures);
                mayStand(ahead + run + "00", " -,;", "");
                mayStand(ahead + run + "23", " -,;", "");
                mayStand(ahead + run + "2 ", " -,;", "");
                mayStand(ahead + run + "5-", " " + figures, "");
                mayStand(ahead + run + "5 - ", " " + figures, "");
                mayStand(ahead + run + "5-1", " ,;" + figures, "");
                mayStand(ahead + run + "5-2", " ,;0123", "456789");
                mayStand(ahead + run + "5-3", " ,;", figures);
                mayStand(ahead + run + "5-23", " ,;", "");
                mayStand(ahead + run + "5-1 ", " ,;", "");
            }
        }
    }

    /** "(.. the end: how many letters there are)". */
    private static void whereTextsMayEnd() {
        for (String text : new String[] {"", "-", "1", "-1", "1:", "1:2-", "1:2,", "1:2-3,", "1:2;", "1:2;-", "1:2;3",
            "1:2;3:", "1:2;3:4-", "1:2;3:4,", "1:2;3:4;"}) {
            for (int blanks = 0; blanks <= 3; blanks++) {
                String longer = text + " ".repeat(blanks);
                due("20: the end of '" + longer + "'", read(longer), -20 - longer.length());
            }
        }
        String[] whole = {"1:2", "1:23", "1:2-3", "1:22-23", "1:2,4", "1:2;3:4", "-1:0", "-6:9", "6:0-5"};
        int[] lands = {1, 1, 2, 2, 2, 2, 1, 1, 1};
        for (int i = 0; i < whole.length; i++) {
            for (int blanks = 0; blanks <= 3; blanks++) {
                due("20: '" + whole[i] + "'", read(whole[i] + " ".repeat(blanks)), lands[i]);
            }
        }
    }

    private static void rowsOfTexts() {
        for (int l = -6; l <= 6; l++) {
            GoreGlobe globe = new GoreGlobe();
            boolean isPole = l == -6 || l == 6;
            due("20: all around row " + l, Check.read(globe, l + ":0-23"), isPole ? 1 : 24);
            for (int row = -6; row <= 6; row++) {
                due("20: row " + row, globe.place(row, 23, 1), row == l ? 1 : 0);
            }
        }
        due("20: row -0 is row 0", read("-0:1;0:1"), 1);
        due("20: rows in any order, again", read("3:1;-3:1;3:1;3:2;-3:2"), 4);
        due("20: row 7", read("7:1"), -20);
        due("20: row -7", read("-7:1"), -21);
        due("20: row 10", read("10:1"), -21);
        due("20: row 06", read("06:1"), -21);
    }

    /** "a number m (one or two figures, 0 .. 23)"; "the first figure of a number that is above 23 by its first two". */
    private static void numbersOfTexts() {
        for (int number = 0; number <= 199; number++) {
            int fault = number > 99 ? (number / 10 > 23 ? 2 : 4) : 2;
            GoreGlobe globe = new GoreGlobe();
            due("20: 1:" + number, Check.read(globe, "1:" + number), number <= 23 ? 1 : -20 - fault);
            due("20: place " + number, globe.place(1, number % 24, 1), number <= 23 ? 1 : 0);
            due("20: 1:0-" + number, read("1:0-" + number), number <= 23 ? number + 1 : -22 - fault);
            due("20: 1:0," + number, read("1:0," + number), number > 23 ? -22 - fault : number == 0 ? 1 : 2);
        }
        for (int m = 0; m <= 9; m++) {
            GoreGlobe globe = new GoreGlobe();
            due("20: 0" + m, Check.read(globe, "2:0" + m), 1);
            due("20: it is " + m, globe.place(2, m, 1), 1);
            due("20: 00" + m + ", a third figure", read("2:00" + m), -24);
            due("20: 23" + m + ", a third figure", read("2:23" + m), -24);
            due("20: 24" + m + ", above 23 by two", read("2:24" + m), -22);
        }
        due("20: many figures", read("2:1111111111111111"), -24);
        due("20: many figures above 23", read("2:9999999999999999"), -22);
    }

    /** "from the first one on eastwards to that": over 23, to itself, all around. */
    private static void runsOfTexts() {
        for (int from = 0; from < 24; from++) {
            for (int to = 0; to < 24; to++) {
                GoreGlobe globe = new GoreGlobe();
                int many = from <= to ? to - from + 1 : 24 - from + to + 1;
                due("20: run " + from + "-" + to, Check.read(globe, "-2:" + from + "-" + to), many);
                for (int m = 0; m < 24; m++) {
                    boolean isIn = from <= to ? m >= from && m <= to : m >= from || m <= to;
                    due("20: run " + from + "-" + to + ", " + m, globe.place(-2, m, 1), isIn ? 1 : 0);
                }
            }
        }
    }

    /** "Blanks count for nothing, but end a row of figures". */
    private static void blanksInTexts() {
        String text = "-1:22-13,5;6:07-8";
        due("20: without blanks", read(text), 17);
        for (int at = 0; at <= text.length(); at++) {
            boolean isSplit = at > 0 && at < text.length() && Character.isDigit(text.charAt(at - 1))
                && Character.isDigit(text.charAt(at));
            for (int blanks = 1; blanks <= 3; blanks++) {
                String blank = " ".repeat(blanks);
                String told = text.substring(0, at) + blank + text.substring(at);
                due("20: '" + told + "'", read(told), isSplit ? -20 - at - blanks : 17);
            }
        }
    }

    private static void longestTexts() {
        due("20: 90 letters", Check.ALL.length(), 90);
        due("20: all places", read(Check.ALL), 266);
        String most = "0:" + "1,".repeat(43) + "1";
        due("20: 89 letters", most.length(), 89);
        due("20: as many runs as may be", read(most), 1);
        due("20: the 90th can't stand there", read(most + ":"), -109);
        due("20: the end behind 90", read(most + ","), -110);
        String rows = "1:1;".repeat(22);
        due("20: as many rows as may be", read(rows.substring(0, 87)), 1);
        due("20: an end behind many rows", read(rows), -108);
        due("20: more than 90 are cut off", read("0:1" + " ".repeat(87) + "x"), 1);
    }

    /** "THE TAPE, which is empty then (by a FAULT, too) .. A FAULT .. (all else stays)". */
    private static void faultLeavesAllElse() {
        String[] faults = {"", "1:1;", "0:0-23;x", "1:5-24", "2:1 1"};
        for (String fault : faults) {
            GoreGlobe globe = routed(3, 4);
            GoreGlobe other = routed(3, 4);
            globe.drift(3);
            other.drift(3);
            CHECK.holds("20: a fault in '" + fault + "'", Check.read(globe, fault) <= -20);
            same("20: all else stays by '" + fault + "'", globe, other);
            due("20: empty then", globe.type('2'), 1);
        }
        GoreGlobe globe = new GoreGlobe();
        due("20: nothing is a fault", globe.read(), -20);
        due("20: again", globe.read(), -20);
        Check.read(globe, "0:1");
        due("20: empty then, without a fault", globe.read(), -20);
        due("20: the land stays by that", globe.count(3), 1);
    }

    /** "A TEXT tells all LAND, the rest is SEA". */
    private static void textsTellAllLand() {
        GoreGlobe globe = new GoreGlobe();
        Check.read(globe, Check.ALL);
        due("20: of all one is left", Check.read(globe, "-6:0"), 1);
        due("20: the south pole", globe.place(-6, 0, 1), 1);
        due("20: not the north pole", globe.place(6, 0, 1), 0);
        due("20: the same again", Check.read(globe, "-6:7"), 1);
        due("20: each may be undone", globe.undo(), 2);
        due("20: undone to the same", globe.count(3), 1);
        globe.undo();
        due("20: undone to all", globe.count(3), 266);
    }

    /** "A DRIFT of n turns (1 .. 40; each may be UNDONE ..)". */
    private static void driftTurns() {
        // The first turns of draw 1 come to 80, 172, 5, 225, 195, 41, 134, 237: all unlike.
        int[] places = {80, 172, 5, 225, 195, 41, 134, 237};
        for (int n = 1; n <= 8; n++) {
            GoreGlobe globe = new GoreGlobe();
            due("21: " + n + " turns", globe.drift(n), n);
            for (int i = 0; i < 8; i++) {
                int l = Check.rowOf(places[i]);
                due("21: turn " + i + " of " + n, globe.place(l, Check.stepOf(places[i]), 1), i < n ? 1 : 0);
            }
            due("21: what may be undone", globe.count(6), Math.min(n, 6));
            for (int left = Math.min(n, 6) - 1; left >= 0; left--) {
                due("21: a turn undone", globe.undo(), left);
            }
            due("21: the oldest stay", globe.count(3), Math.max(0, n - 6));
        }
        for (int n : new int[] {MIN, -1, 0, 41, MAX}) {
            GoreGlobe globe = new GoreGlobe();
            due("21: n " + n, globe.drift(n), BAD);
            due("21: the draw stays", globe.seed(1), 1);
        }
        CHECK.holds("21: 40 turns", new GoreGlobe().drift(40) > 0);
    }

    private static void drawn(int seed, int draw, int place) {
        GoreGlobe globe = new GoreGlobe();
        globe.seed(seed);
        due("21: one turn of " + seed, globe.drift(1), 1);
        due("21: its place, " + place, globe.sea(0, 0), 265);
        due("21: place " + place + " is land", globe.land(place, 1), NOT);
        due("21: the draw then", globe.seed(seed), draw);
        due("21: the same turn again makes sea", globe.drift(1), 0);
        due("21: the draw then", globe.seed(0), draw);
        globe.undo();
        due("21: undone, it is land", globe.count(3), 1);
        due("21: undone, the draw is as ahead of it", globe.seed(0), seed);
    }

    /** "the lowest 31 bits of itself times 1103515245 and 12345 more: x is it by 65536 (cut) .. left over by 266". */
    private static void drawsAtTheirEdges() {
        drawn(0, 12345, 0);
        drawn(1, 1103527590, 80);
        drawn(63, 801996044, 1);
        drawn(87, 1516558148, 264);
        drawn(5542, 1795554279, 265);
        drawn(MAX, 1043980748, 235);
        drawn(2088216195, 0, 0);
        drawn(230538014, MAX, 49);
        drawn(2032319262, 65535, 0);
        drawn(1742513795, 65536, 1);
        drawn(615496478, 266 * 65536 - 1, 265);
        drawn(325691011, 266 * 65536, 0);
    }

    /** "THE DRAW becomes v: what it was. BAD: below 0". */
    private static void seedIsBad() {
        GoreGlobe globe = new GoreGlobe();
        for (int v : new int[] {MIN, MIN + 1, -2, -1}) {
            due("23: " + v, globe.seed(v), BAD);
        }
        due("23: 1 at first", globe.seed(0), 1);
        due("23: 0", globe.seed(MAX), 0);
        due("23: the greatest", globe.seed(MAX), MAX);
        due("23: the same is no refusal", globe.seed(7), MAX);
    }

    /** "(6 are known, older ones lost)"; "UNDONE: how many more may be. NONE: none is known". */
    private static void undoOneAfterAnother() {
        for (int done = 0; done <= 20; done++) {
            GoreGlobe globe = new GoreGlobe();
            for (int place = 0; place < done; place++) {
                globe.land(place, 1);
            }
            int known = Math.min(done, 6);
            due("13: known of " + done, globe.count(6), known);
            for (int left = known - 1; left >= 0; left--) {
                due("22: left of " + done, globe.undo(), left);
                due("22: land of " + done, globe.count(3), done - known + left);
                due("13: known of " + done + " then", globe.count(6), left);
            }
            due("22: none of " + done, globe.undo(), NONE);
            due("22: none again of " + done, globe.undo(), NONE);
            due("22: the oldest stay", globe.count(3), done - known);
        }
        GoreGlobe globe = new GoreGlobe();
        for (int place = 0; place < 9; place++) {
            globe.land(place, 1);
        }
        for (int i = 0; i < 3; i++) {
            globe.undo();
        }
        globe.land(20, 1);
        globe.land(21, 1);
        due("22: three undone, two done", globe.count(6), 5);
        int[] lands = {7, 6, 5, 4, 3};
        for (int i = 0; i < 5; i++) {
            due("22: undone then", globe.undo(), 4 - i);
            due("22: land then", globe.count(3), lands[i]);
        }
        due("22: none then", globe.undo(), NONE);
    }

    private static GoreGlobe rich() {
        GoreGlobe globe = routed(3, 265, 3);
        globe.land(7, 1);
        globe.seed(4711);
        return globe;
    }

    private static void undone(String told, Doing doing) {
        GoreGlobe globe = rich();
        doing.on(globe);
        due("22: " + told + " is one more", globe.count(6), 5);
        due("22: " + told + " undone", globe.undo(), 4);
        same("22: " + told + " is as it had not been", globe, rich());
    }

    /** "of LAND or SEA told, of U, STRIPS, CAPS told, of a PLACE added .., out of it, .. REVERSED, .. TEXT, .. DRIFT". */
    private static void undoEachKind() {
        undone("LAND", globe -> globe.land(8, 1));
        undone("SEA", globe -> globe.land(7, 0));
        undone("U", globe -> globe.tell(0, 200));
        undone("STRIPS", globe -> globe.tell(1, 2));
        undone("CAPS", globe -> globe.tell(2, 0));
        undone("a place added", globe -> globe.add(0));
        undone("a place out", globe -> globe.out(3));
        undone("a route reversed that stays as it is", GoreGlobe::reverse);
        undone("a text", globe -> Check.read(globe, Check.ALL));
        undone("a text that changes nothing", globe -> Check.read(globe, "-5:6"));
        undone("a turn of a drift", globe -> globe.drift(1));
        GoreGlobe globe = routed(1, 2, 3);
        globe.reverse();
        globe.undo();
        stops("22: a route reversed", globe, 1, 2, 3);
        globe.reverse();
        globe.out(2);
        globe.undo();
        stops("22: out of a route reversed", globe, 3, 2, 1);
    }

    /** "LAND, U, STRIPS, CAPS, THE ROUTE, THE DRAW are as ahead of it, whatever was told since". */
    private static void undoWhateverWasToldSince() {
        undone("a draw told since", globe -> {
            globe.land(9, 1);
            globe.seed(5);
        });
        undone("a draw told since a turn", globe -> {
            globe.drift(1);
            globe.seed(5);
        });
        undone("what was refused since", globe -> {
            globe.add(9);
            globe.add(266);
            globe.tell(0, 60);
            globe.read();
            globe.drift(41);
        });
    }

    /** What is asked, typed, seeded, imaged, put on sheets or refused may not be UNDONE. */
    private static void whatCannotBeUndone() {
        GoreGlobe globe = new GoreGlobe();
        globe.seed(5);
        globe.type('1');
        globe.read();
        globe.image();
        globe.sheet(0, 2, 30);
        globe.film(0, 0, 2, 0);
        globe.item(0, 2, 0, 1);
        globe.copy(0, 0, 0, 1, 3);
        globe.drop(0);
        globe.worst(0);
        globe.route(1);
        globe.lost(5, 0);
        due("22: nothing is known", globe.count(6), 0);
        due("22: none", globe.undo(), NONE);
        due("22: the draw stays", globe.seed(5), 5);
    }

    /** "All but SHEETS, THE TAPE is kept as an IMAGE (what may be UNDONE, too)"; "NONE: there is none". */
    private static void imageOfNothingAndOfAll() {
        GoreGlobe globe = new GoreGlobe();
        due("25: there is none", globe.restore(), NONE);
        due("25: still none", globe.restore(), NONE);
        due("24: of a new one", globe.image(), 1);
        globe.drift(40);
        globe.add(4);
        globe.tell(0, 10);
        due("25: as it was", globe.restore(), 1);
        due("25: nothing may be undone", globe.undo(), NONE);
        same("25: a new one", globe, new GoreGlobe());
        GoreGlobe full = new GoreGlobe();
        for (int i = 0; i < 8; i++) {
            full.add(i);
        }
        full.image();
        for (int i = 0; i < 6; i++) {
            full.undo();
        }
        due("24: nothing may be undone", full.count(6), 0);
        for (int turns = 0; turns <= 9; turns++) {
            // Whatever was done since, by how many turns: the latest six are known as they were.
            if (turns > 0) {
                full.drift(turns);
            }
            due("25: restore", full.restore(), 1);
            for (int left = 5; left >= 0; left--) {
                due("25: what may be undone is back", full.undo(), left);
                due("25: stops then", full.route(0), left + 2);
                due("25: land then", full.count(3), 0);
            }
            due("25: six and no more", full.undo(), NONE);
        }
    }

    private static void restoreAgain() {
        GoreGlobe globe = new GoreGlobe();
        globe.sheet(1, 1, 7);
        globe.land(3, 1);
        globe.type('0');
        globe.image();
        globe.type(':');
        for (int times = 0; times < 3; times++) {
            globe.land(10 + times, 1);
            due("25: as often as is asked", globe.restore(), 1);
            due("25: land as it was", globe.count(3), 1);
            due("25: known as it was", globe.count(6), 1);
        }
        globe.undo();
        due("25: an undo leaves the image", globe.restore(), 1);
        due("25: undone is back", globe.count(3), 1);
        globe.drop(1);
        globe.restore();
        due("25: a sheet is no part of it", globe.drop(1), GoreGlobe.NULL);
        globe.type('9');
        globe.restore();
        due("25: the tape is no part of it", globe.type('-'), 4);
        globe.type('9');
        due("25: it can be read", globe.read(), 1);
        due("25: the tape's own land", globe.place(0, 9, 1), 1);
        globe.image();
        globe.land(265, 1);
        globe.restore();
        due("24: the latest image alone", globe.place(0, 9, 1), 1);
        due("24: the latest image alone", globe.count(3), 1);
    }

    /** "An object is used for at most 512 calls after it has been made". */
    private static void usedFor512Calls() {
        GoreGlobe globe = new GoreGlobe();
        boolean[] isLand = new boolean[266];
        long draw = 1;
        int lands = 0;
        for (int call = 1; call <= 511; call++) {
            for (int turn = 0; turn < 40; turn++) {
                draw = (draw * 1103515245L + 12345) % 2147483648L;
                int place = (int) (draw / 65536 % 266);
                lands += isLand[place] ? -1 : 1;
                isLand[place] = !isLand[place];
            }
            due("21: call " + call, globe.drift(40), lands);
        }
        due("1: the 512th call", globe.seed(0), draw);
    }
}
