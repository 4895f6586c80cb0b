import java.util.ArrayList;
import java.util.List;

/**
 * "What is refused changes nothing, but as told", and what is only asked changes nothing either: each such call
 * on an object of its own, then all that can be seen of it, compared with one on which it was not called.
 */
final class RefusedTest {
    private static final int BAD = GoreGlobe.BAD, NOT = GoreGlobe.NOT, FULL = GoreGlobe.FULL, NONE = GoreGlobe.NONE;
    private static final int NULL = GoreGlobe.NULL, CAST = GoreGlobe.CAST, INDEX = GoreGlobe.INDEX, SIZE = GoreGlobe.SIZE;
    private static final int MIN = Integer.MIN_VALUE, MAX = Integer.MAX_VALUE;
    private static final Check CHECK = new Check();
    private static final List<Look> LOOKS = looks();

    private interface Call {
        long on(GoreGlobe globe);
    }

    private interface Made {
        GoreGlobe one();
    }

    private interface Look {
        void at(GoreGlobe globe, StringBuilder seen);
    }

    public static void main(String[] args) {
        refusedOfNew();
        refusedOfFull();
        refusedOfLandAlone();
        asked();
        CHECK.end();
    }

    // ---- what can be seen; each look by itself, since it may change what it looks at

    private static List<Look> looks() {
        List<Look> all = new ArrayList<>();
        all.add(RefusedTest::told);
        all.add(RefusedTest::map);
        for (int times = 1; times <= 7; times++) {
            int undone = times;
            all.add((globe, seen) -> {
                for (int i = 0; i < undone; i++) {
                    seen.append(globe.undo()).append(' ');
                }
                told(globe, seen);
            });
        }
        all.add((globe, seen) -> {
            globe.undo();
            map(globe, seen);
        });
        all.add((globe, seen) -> {
            seen.append(globe.type('1')).append(' ').append(globe.read()).append(' ');
            told(globe, seen);
        });
        all.add((globe, seen) -> {
            seen.append(globe.restore()).append(' ');
            told(globe, seen);
            map(globe, seen);
        });
        all.add((globe, seen) -> {
            globe.restore();
            seen.append(globe.undo()).append(' ').append(globe.undo()).append(' ');
            told(globe, seen);
        });
        all.add(RefusedTest::sheets);
        return all;
    }

    private static void told(GoreGlobe globe, StringBuilder seen) {
        for (int what = 0; what <= 6; what++) {
            seen.append(globe.count(what)).append(' ');
        }
        for (int i = 0; i <= 8; i++) {
            seen.append(globe.stop(i)).append(' ');
        }
        int draw = globe.seed(1);
        globe.seed(draw);
        seen.append(draw).append(' ');
    }

    private static void map(GoreGlobe globe, StringBuilder seen) {
        for (int place = 0; place < 266; place++) {
            seen.append(globe.place(Check.rowOf(place), Check.stepOf(place), 1));
        }
    }

    private static void sheets(GoreGlobe globe, StringBuilder seen) {
        for (int sheet = 0; sheet < 4; sheet++) {
            for (int lane = 0; lane < 4; lane++) {
                for (int i = 0; i < 30; i += 3) {
                    seen.append(globe.seen(sheet, lane, i, 1)).append(' ');
                }
            }
            seen.append(globe.drop(sheet)).append(' ');
        }
    }

    private static void changesNothing(String name, Made made, Call call) {
        for (int i = 0; i < LOOKS.size(); i++) {
            GoreGlobe called = made.one();
            call.on(called);
            StringBuilder is = new StringBuilder();
            LOOKS.get(i).at(called, is);
            StringBuilder was = new StringBuilder();
            LOOKS.get(i).at(made.one(), was);
            CHECK.holds(name + " changes nothing, look " + i + ": " + is + " is " + was, is.compareTo(was) == 0);
        }
    }

    private static void refused(String name, Made made, long answer, Call call) {
        CHECK.due(name, call.on(made.one()), answer);
        changesNothing(name, made, call);
    }

    // ---- objects

    /**
     * U 61, 8 STRIPS, 2 CAPS, 8 stops, 6 that may be undone, 90 letters, an image; sheet 0: 30 ints that tell ten
     * places of row 0, 1: no bytes, 2: nothing, 3: 24 longs.
     */
    private static GoreGlobe full() {
        GoreGlobe globe = new GoreGlobe();
        globe.drift(5);
        globe.add(7);
        globe.image();
        globe.tell(0, 61);
        globe.tell(1, 8);
        globe.tell(2, 2);
        globe.land(7, 1);
        globe.land(265, 1);
        for (int i = 1; i < 8; i++) {
            globe.add(100 + i);
        }
        globe.seed(99);
        Check.type(globe, Check.ALL);
        globe.sheet(0, 2, 30);
        for (int m = 0; m < 10; m++) {
            globe.item(0, 2, 3 * m + 1, m);
            globe.item(0, 2, 3 * m + 2, 122 * m);
        }
        globe.sheet(1, 0, 0);
        globe.sheet(3, 3, 24);
        return globe;
    }

    private static GoreGlobe landAlone() {
        GoreGlobe globe = new GoreGlobe();
        Check.read(globe, Check.ALL);
        globe.add(0);
        globe.add(265);
        Check.type(globe, "0:1");
        return globe;
    }

    // ---- calls

    private static void refusedOfNew() {
        Made made = GoreGlobe::new;
        refused("new: undo", made, NONE, GoreGlobe::undo);
        refused("new: restore", made, NONE, GoreGlobe::restore);
        refused("new: reverse", made, NOT, GoreGlobe::reverse);
        refused("new: read", made, -20, GoreGlobe::read);
        refused("new: stop 0", made, NONE, globe -> globe.stop(0));
        refused("new: out 0", made, NONE, globe -> globe.out(0));
        refused("new: land 0 0", made, NOT, globe -> globe.land(0, 0));
        refused("new: tell 0 60", made, NOT, globe -> globe.tell(0, 60));
        refused("new: tell 1 12", made, NOT, globe -> globe.tell(1, 12));
        refused("new: tell 2 1", made, NOT, globe -> globe.tell(2, 1));
        refused("new: drop 0", made, NULL, globe -> globe.drop(0));
        refused("new: item", made, NULL, globe -> globe.item(0, 0, 0, 1));
        refused("new: seen", made, NULL, globe -> globe.seen(0, 0, 0, 1));
        refused("new: film", made, NULL, globe -> globe.film(0, 0, 0, 0));
        refused("new: copy", made, NULL, globe -> globe.copy(0, 0, 1, 0, 0));
        refused("new: sheet of size -1", made, SIZE, globe -> globe.sheet(0, 0, -1));
        refused("new: sheet of size 31", made, BAD, globe -> globe.sheet(0, 0, 31));
        Made one = () -> {
            GoreGlobe globe = new GoreGlobe();
            globe.add(7);
            return globe;
        };
        refused("one stop: reverse", one, NOT, GoreGlobe::reverse);
        refused("one stop: out of another", one, NONE, globe -> globe.out(8));
    }

    private static void refusedOfFull() {
        Made made = RefusedTest::full;
        for (int bad : new int[] {MIN, -1, 266, MAX}) {
            refused("full: add " + bad, made, BAD, globe -> globe.add(bad));
            refused("full: out " + bad, made, BAD, globe -> globe.out(bad));
            refused("full: land " + bad, made, BAD, globe -> globe.land(bad, 1));
            refused("full: land to " + bad, made, BAD, globe -> globe.land(8, bad));
            refused("full: tell " + bad, made, BAD, globe -> globe.tell(bad, 3));
            refused("full: U " + bad, made, BAD, globe -> globe.tell(0, bad));
            refused("full: STRIPS " + bad, made, BAD, globe -> globe.tell(1, bad));
            refused("full: CAPS " + bad, made, BAD, globe -> globe.tell(2, bad));
            refused("full: type " + bad, made, BAD, globe -> globe.type(bad));
            refused("full: drift " + bad, made, BAD, globe -> globe.drift(bad));
        }
        refused("full: U 9", made, BAD, globe -> globe.tell(0, 9));
        refused("full: U 201", made, BAD, globe -> globe.tell(0, 201));
        refused("full: U is so", made, NOT, globe -> globe.tell(0, 61));
        refused("full: STRIPS are so", made, NOT, globe -> globe.tell(1, 8));
        refused("full: CAPS are so", made, NOT, globe -> globe.tell(2, 2));
        refused("full: it is land", made, NOT, globe -> globe.land(7, 1));
        refused("full: it is sea", made, NOT, globe -> globe.land(8, 0));
        refused("full: a ninth stop", made, FULL, globe -> globe.add(0));
        refused("full: a stop already in it", made, FULL, globe -> globe.add(7));
        refused("full: out of what isn't in it", made, NONE, globe -> globe.out(0));
        refused("full: the 91st letter", made, FULL, globe -> globe.type('1'));
        refused("full: drift 0", made, BAD, globe -> globe.drift(0));
        refused("full: drift 41", made, BAD, globe -> globe.drift(41));
        refused("full: seed -1", made, BAD, globe -> globe.seed(-1));
        refused("full: seed least", made, BAD, globe -> globe.seed(MIN));
        refusedOfFullSheets(made);
    }

    private static void refusedOfFullSheets(Made made) {
        for (int bad : new int[] {MIN, -1, 4, MAX}) {
            refused("full: sheet " + bad, made, BAD, globe -> globe.sheet(bad, 2, 5));
            refused("full: sheet of lane " + bad, made, BAD, globe -> globe.sheet(0, bad, 5));
            refused("full: drop " + bad, made, BAD, globe -> globe.drop(bad));
            refused("full: item of " + bad, made, BAD, globe -> globe.item(bad, 2, 1, 9));
            refused("full: item of lane " + bad, made, BAD, globe -> globe.item(0, bad, 1, 9));
            refused("full: film to " + bad, made, BAD, globe -> globe.film(0, bad, 2, 0));
            refused("full: film of lane " + bad, made, BAD, globe -> globe.film(0, 0, bad, 0));
            refused("full: copy from " + bad, made, BAD, globe -> globe.copy(bad, 0, 0, 3, 1));
            refused("full: copy to " + bad, made, BAD, globe -> globe.copy(0, 0, bad, 3, 1));
        }
        refused("full: 31 items", made, BAD, globe -> globe.sheet(0, 2, 31));
        refused("full: -1 items", made, SIZE, globe -> globe.sheet(0, 2, -1));
        refused("full: drop nothing", made, NULL, globe -> globe.drop(2));
        refused("full: item of nothing", made, NULL, globe -> globe.item(2, 2, 0, 9));
        refused("full: item of another lane", made, CAST, globe -> globe.item(0, 3, 1, 9));
        refused("full: item -1", made, INDEX, globe -> globe.item(0, 2, -1, 9));
        refused("full: item 30", made, INDEX, globe -> globe.item(0, 2, 30, 9));
        refused("full: item 0 of none", made, INDEX, globe -> globe.item(1, 0, 0, 9));
        refused("full: film of row 7", made, BAD, globe -> globe.film(7, 0, 2, 0));
        refused("full: film of row 5", made, NOT, globe -> globe.film(5, 0, 2, 0));
        refused("full: film to nothing", made, NULL, globe -> globe.film(4, 2, 2, 0));
        refused("full: film to another lane", made, CAST, globe -> globe.film(4, 0, 1, 0));
        refused("full: film from -1 on", made, INDEX, globe -> globe.film(4, 0, 2, -1));
        refused("full: film from 7 on", made, INDEX, globe -> globe.film(4, 0, 2, 7));
        refused("full: film from 1 on of 24", made, INDEX, globe -> globe.film(4, 3, 3, 1));
        refused("full: copy from nothing", made, NULL, globe -> globe.copy(2, 0, 0, 0, 1));
        refused("full: copy to nothing", made, NULL, globe -> globe.copy(0, 0, 2, 0, 1));
        refused("full: copy to another lane", made, CAST, globe -> globe.copy(0, 0, 3, 0, 3));
        refused("full: copy too many", made, INDEX, globe -> globe.copy(0, 3, 0, 1, 28));
        refused("full: copy too far", made, INDEX, globe -> globe.copy(0, 1, 0, 3, 28));
        refused("full: copy -1", made, INDEX, globe -> globe.copy(0, 3, 0, 1, -1));
        refused("full: copy from -1 on", made, INDEX, globe -> globe.copy(0, -1, 0, 3, 3));
        refused("full: copy to -1", made, INDEX, globe -> globe.copy(0, 3, 0, -1, 3));
        refused("full: copy none", made, 0, globe -> globe.copy(0, 30, 0, 30, 0));
    }

    private static void refusedOfLandAlone() {
        Made made = RefusedTest::landAlone;
        refused("land: sea 0", made, BAD, globe -> globe.sea(0, 0));
        refused("land: way", made, NONE, globe -> globe.way(0, 1, 0));
        refused("land: length", made, NONE, globe -> globe.route(1));
        refused("land: rolled", made, NONE, globe -> globe.rolled(1, 0));
        refused("land: its sea", made, NONE, globe -> globe.place(0, 0, 2));
        refused("land: it is land", made, NOT, globe -> globe.land(265, 1));
        refused("land: restore", made, NONE, GoreGlobe::restore);
    }

    /** Asking changes nothing, whatever the answer is; an image and a seed change nothing but themselves. */
    private static void asked() {
        for (Made made : List.<Made>of(GoreGlobe::new, RefusedTest::full, RefusedTest::landAlone)) {
            for (int what = -1; what <= 7; what++) {
                int asked = what;
                changesNothing("place", made, globe -> globe.place(3, 0, asked));
                changesNothing("flat", made, globe -> globe.flat(4, 0, asked));
                changesNothing("back", made, globe -> globe.back(asked, 8, 8));
                changesNothing("pair", made, globe -> globe.pair(121, 122, asked));
                changesNothing("worst", made, globe -> globe.worst(asked));
                changesNothing("way", made, globe -> globe.way(120, 122, asked));
                changesNothing("sea", made, globe -> globe.sea(0, asked));
                changesNothing("stop", made, globe -> globe.stop(asked));
                changesNothing("route", made, globe -> globe.route(asked));
                changesNothing("rolled", made, globe -> globe.rolled(7, asked));
                changesNothing("lost", made, globe -> globe.lost(3, asked));
                changesNothing("count", made, globe -> globe.count(asked));
                changesNothing("seen", made, globe -> globe.seen(0, 2, 0, asked));
                changesNothing("seen of longs", made, globe -> globe.seen(3, 3, asked, 8));
            }
        }
    }
}
