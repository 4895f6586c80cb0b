import java.util.Arrays;
import java.util.Random;

/**
 * Promises 7, 10 and 11 on drawn maps: open seas, labyrinths whose ways are narrow, and seas near a pole, where
 * steps in a row are so much shorter than those between rows that a place's first cost is often not its least.
 */
final class WaysDrawnTest {
    private static final int NONE = GoreGlobe.NONE, PLACES = 266, MAPS = 600, MOST_CALLS = 512;
    private static final Check CHECK = new Check();
    private static final int[][] NEIGHBOURS = neighbours();

    private final Random random;
    private final int map;
    private final GoreGlobe globe = new GoreGlobe();
    private final boolean[] land = new boolean[PLACES];
    private final int[] far = new int[PLACES];
    private final int[] steps = new int[PLACES];
    private int unit = 60;
    private int calls;

    private WaysDrawnTest(int map) {
        this.map = map;
        random = new Random(map);
    }

    public static void main(String[] args) {
        for (int map = 0; map < MAPS && !CHECK.isWrong(); map++) {
            WaysDrawnTest test = new WaysDrawnTest(map);
            test.draw();
            test.routes();
            test.ways();
        }
        CHECK.end();
    }

    private static int[][] neighbours() {
        int[][] all = new int[PLACES][0];
        for (int l = -6; l < 6; l++) {
            for (int m = 0; m < 24; m++) {
                join(all, Check.number(l, m), Check.number(l + 1, m));
                if (l > -6) {
                    join(all, Check.number(l, m), Check.number(l, (m + 1) % 24));
                }
            }
        }
        return all;
    }

    private static void join(int[][] all, int one, int other) {
        all[one] = Arrays.copyOf(all[one], all[one].length + 1);
        all[one][all[one].length - 1] = other;
        all[other] = Arrays.copyOf(all[other], all[other].length + 1);
        all[other][all[other].length - 1] = one;
    }

    private void due(String call, int got, int want) {
        calls++;
        if (calls <= MOST_CALLS) {
            CHECK.due("map " + map + ", U " + unit + ": " + call, got, want);
        }
    }

    private void draw() {
        unit = map % 3 == 0 ? 10 + random.nextInt(10) : 10 + random.nextInt(191);
        calls++;
        globe.tell(0, unit);
        switch (map % 4) {
            case 0 -> drawAnywhere(random.nextInt(120));
            case 1 -> drawLabyrinth(-5, 5);
            case 2 -> drawLabyrinth(2, 5);
            default -> drawLabyrinth(-5, -3);
        }
        int number = 0;
        for (int place = 0; place < PLACES; place++) {
            if (land[place]) {
                number++;
                due("land " + place, globe.land(place, 1), number);
            }
        }
    }

    private void drawAnywhere(int many) {
        for (int i = 0; i < many; i++) {
            land[random.nextInt(PLACES)] = true;
        }
    }

    /** Between the rows: sea as it grows from a place, each new one beside few; beyond them a wall. */
    private void drawLabyrinth(int south, int north) {
        int most = 1 + random.nextInt(3);
        Arrays.fill(land, Check.number(south, 0), Check.number(north, 23) + 1, true);
        wall(south - 1);
        wall(north + 1);
        land[Check.number(south, random.nextInt(24))] = false;
        for (int i = 0; i < 3000; i++) {
            int place = Check.number(south + random.nextInt(north - south + 1), random.nextInt(24));
            int beside = 0;
            for (int next : NEIGHBOURS[place]) {
                beside += land[next] || Check.rowOf(next) < south || Check.rowOf(next) > north ? 0 : 1;
            }
            if (beside > 0 && beside <= most) {
                land[place] = false;
            }
        }
    }

    private void wall(int l) {
        boolean isOpen = random.nextBoolean();
        for (int m = 0; m < 24 && l >= -6 && l <= 6; m++) {
            land[Check.number(l, m)] = !isOpen;
        }
    }

    private int anywhere() {
        int place = random.nextInt(PLACES);
        for (int i = 0; i < 20 && land[place]; i++) {
            place = random.nextInt(PLACES);
        }
        return place;
    }

    private int step(int one, int other) {
        int[] cosines = {10000, 9659, 8660, 7071, 5000, 2588, 0};
        int l = Check.rowOf(one);
        return l == Check.rowOf(other) ? 2 * unit * cosines[Math.abs(l)] / 10000 : 2 * unit;
    }

    /** FAR and steps from all places to one, by trying again until nothing gets better; FAR is NONE without a way. */
    private void reckon(int to) {
        Arrays.fill(far, NONE);
        if (land[to]) {
            return;
        }
        far[to] = 0;
        steps[to] = 0;
        boolean isBetter = true;
        while (isBetter) {
            isBetter = false;
            for (int place = 0; place < PLACES; place++) {
                for (int next : NEIGHBOURS[place]) {
                    isBetter |= !land[place] && far[next] != NONE && goesBy(place, next);
                }
            }
        }
    }

    private boolean goesBy(int place, int next) {
        int itsFar = far[next] + step(place, next);
        int itsSteps = steps[next] + 1;
        if (far[place] != NONE && (itsFar > far[place] || itsFar == far[place] && itsSteps >= steps[place])) {
            return false;
        }
        far[place] = itsFar;
        steps[place] = itsSteps;
        return true;
    }

    private int first(int from) {
        int least = NONE;
        for (int next : NEIGHBOURS[from]) {
            boolean isOn = far[next] != NONE && far[next] + step(from, next) == far[from]
                && steps[next] + 1 == steps[from];
            if (isOn && (least == NONE || next < least)) {
                least = next;
            }
        }
        return least;
    }

    private void ways() {
        while (calls < MOST_CALLS && !CHECK.isWrong()) {
            int to = anywhere();
            reckon(to);
            for (int i = 0; i < 20; i++) {
                int from = anywhere();
                String told = "way " + from + " " + to + " ";
                boolean isWay = far[from] != NONE;
                due(told + 0, globe.way(from, to, 0), far[from]);
                due(told + 1, globe.way(from, to, 1), isWay ? steps[from] : NONE);
                due(told + 2, globe.way(from, to, 2), isWay ? first(from) : NONE);
            }
        }
    }

    private void routes() {
        int length = 0;
        int ahead = NONE;
        for (int i = 1; i <= 8; i++) {
            int place = anywhere();
            due("add " + place, globe.add(place), i);
            if (ahead != NONE && length != NONE) {
                reckon(place);
                length = far[ahead] == NONE ? NONE : length + far[ahead];
            }
            ahead = place;
            due("route of " + i, globe.route(1), length);
            int v = 1 + random.nextInt(10000);
            due("rolled " + v, globe.rolled(v, 0), length == NONE ? NONE : length / v);
            due("over " + v, globe.rolled(v, 1), length == NONE ? NONE : length % v);
        }
    }
}
