import java.util.Random;

/** Promises 1 to 31: long runs of drawn calls, good ones and wild ones, answered as Model answers them. */
final class ModelTest {
    private static final int RUNS = 1600, CALLS = 512, MAPS = 400;
    private static final int[] WILD = {Integer.MIN_VALUE, Integer.MIN_VALUE + 1, -1000000, -7, -2, -1, 0, 1, 2, 3, 4, 5, 6,
        7, 8, 9, 12, 23, 24, 25, 30, 31, 41, 90, 265, 266, 267, 4096, 10000, 10001, 1 << 30, Integer.MAX_VALUE - 1,
        Integer.MAX_VALUE};

    private final Random random;
    private final Check check;
    private final int run;
    private final GoreGlobe globe = new GoreGlobe();
    private final Model model = new Model();
    private int calls;

    private ModelTest(Check check, int run) {
        this.random = new Random(run);
        this.check = check;
        this.run = run;
    }

    public static void main(String[] args) {
        Check check = new Check();
        for (int u = 10; u <= 200; u++) {
            allPaper(check, u);
        }
        for (int map = 0; map < MAPS && !check.isWrong(); map++) {
            waysOf(check, map);
        }
        for (int run = 0; run < RUNS && !check.isWrong(); run++) {
            ModelTest test = new ModelTest(check, run);
            // Runs differ in what they do most, else long ways and full routes would be rare.
            int kind = run % 4;
            while (test.calls < CALLS && !check.isWrong()) {
                test.call(test.group(kind));
            }
        }
        check.end();
    }

    /** All places on all papers of a U: a sine that is off by one shows for few U alone. */
    private static void allPaper(Check check, int u) {
        for (int i = 0; i < 6; i++) {
            int strips = Model.NUMBERS[i];
            int caps = (u + i) % 4;
            GoreGlobe globe = Check.told(u, strips, caps);
            Model model = new Model();
            model.tell(0, u);
            model.tell(1, strips);
            model.tell(2, caps);
            for (int p = 0; p < 13 * 24 * 5; p++) {
                if (p % 500 == 0) {
                    // An object is used for 512 calls at most.
                    globe = Check.told(u, strips, caps);
                }
                int l = p / 120 - 6;
                int m = p / 5 % 24;
                String told = u + " " + strips + " " + caps + ": flat " + l + " " + m + " " + p % 5;
                check.due(told, globe.flat(l, m, p % 5), model.flat(l, m, p % 5));
            }
            for (int what = 0; what <= 2; what++) {
                check.due("worst " + u + " " + strips + " " + caps, globe.worst(what), model.worst(what));
            }
        }
    }

    /** Ways on a drawn map: from little land to so much that seas fall apart. */
    private static void waysOf(Check check, int map) {
        Random random = new Random(map);
        GoreGlobe globe = new GoreGlobe();
        Model model = new Model();
        int u = 10 + random.nextInt(map % 2 == 0 ? 20 : 191);
        check.due("tell", globe.tell(0, u), model.tell(0, u));
        check.due("seed", globe.seed(map), model.seed(map));
        for (int drifts = map % 8; drifts > 0; drifts--) {
            check.due("drift", globe.drift(25), model.drift(25));
        }
        for (int i = 0; i < 40; i++) {
            int from = random.nextInt(266);
            int to = random.nextInt(266);
            for (int what = 0; what <= 2; what++) {
                String told = "map " + map + ": way " + from + " " + to + " " + what;
                check.due(told, globe.way(from, to, what), model.way(from, to, what));
            }
        }
    }

    private int group(int kind) {
        int drawn = random.nextInt(10);
        return drawn < 6 ? kind : random.nextInt(4);
    }

    /** What calls behind the 512th answer is free. */
    private void due(String call, long got, long want) {
        calls++;
        if (calls <= CALLS) {
            check.due("run " + run + ": " + call, got, want);
        }
    }

    /** Mostly least .. most, sometimes just beside it, sometimes anything. */
    private int in(int least, int most) {
        int drawn = random.nextInt(60);
        if (drawn == 0) {
            return WILD[random.nextInt(WILD.length)];
        }
        if (drawn == 1) {
            return random.nextBoolean() ? least - 1 : most + 1;
        }
        if (drawn == 2) {
            return random.nextBoolean() ? least : most;
        }
        return least + random.nextInt(Math.max(1, most - least + 1));
    }

    private void call(int group) {
        switch (group) {
            case 0 -> paper();
            case 1 -> ways();
            case 2 -> done();
            default -> sheets();
        }
    }

    private void paper() {
        int l = in(-6, 6);
        int m = in(0, 23);
        int what = in(0, 4);
        switch (random.nextInt(6)) {
            case 0 -> due("place " + l + " " + m + " " + what, globe.place(l, m, what), model.place(l, m, what));
            case 1 -> due("flat " + l + " " + m + " " + what, globe.flat(l, m, what), model.flat(l, m, what));
            case 2 -> back();
            case 3 -> pair();
            case 4 -> due("worst " + what, globe.worst(what), model.worst(what));
            default -> told();
        }
    }

    private void back() {
        int paper = in(0, 2);
        int u = model.count(0);
        int k = model.count(2);
        int x = in(0, paper == 0 ? 48 * u : 4 * u * k);
        int y = in(0, paper == 0 ? 24 * u : 4 * u * k);
        if (random.nextBoolean()) {
            // Where a place lies, or just beside it: else the edges of strips would be rare.
            int l = random.nextInt(13) - 6;
            int m = random.nextInt(24);
            int base = paper == 0 ? 0 : 3;
            int what = paper == 0 && random.nextBoolean() ? 2 : base;
            x = model.flat(l, m, what) + random.nextInt(3) - 1;
            y = model.flat(l, m, paper == 0 ? 1 : 4) + random.nextInt(3) - 1;
        }
        due("back " + paper + " " + x + " " + y, globe.back(paper, x, y), model.back(paper, x, y));
    }

    private void pair() {
        int one = in(0, 265);
        int other = in(0, 265);
        int[] beside = {-24, -23, -1, 0, 1, 23, 24};
        if (random.nextInt(5) > 0) {
            other = one + beside[random.nextInt(beside.length)];
        } else if (random.nextBoolean()) {
            one = random.nextBoolean() ? 0 : 265;
            other = one == 0 ? in(1, 24) : in(241, 264);
        }
        int what = in(0, 1);
        due("pair " + one + " " + other + " " + what, globe.pair(one, other, what), model.pair(one, other, what));
    }

    private void ways() {
        int from = in(0, 265);
        int to = random.nextInt(20) == 0 ? from : in(0, 265);
        int what = in(0, 2);
        int seas = model.count(4);
        int k = in(0, seas - 1);
        int i = in(0, 8);
        int v = random.nextBoolean() ? in(1, 10000) : in(1, 50);
        int c = in(0, 10);
        int counted = in(0, 6);
        switch (random.nextInt(10)) {
            case 0 -> due("way " + from + " " + to + " " + what, globe.way(from, to, what), model.way(from, to, what));
            case 1 -> due("sea " + k + " " + what, globe.sea(k, what), model.sea(k, what));
            case 2 -> due("stop " + i, globe.stop(i), model.stop(i));
            case 3 -> due("route " + what, globe.route(what), model.route(what));
            case 4 -> due("rolled " + v + " " + what, globe.rolled(v, what), model.rolled(v, what));
            case 5 -> due("lost " + c + " " + what, globe.lost(c, what), model.lost(c, what));
            case 6 -> due("count " + counted, globe.count(counted), model.count(counted));
            case 7 -> routed();
            default -> walls();
        }
    }

    /** Land in rows, so that there are several seas and long ways around. */
    private void walls() {
        if (random.nextInt(4) == 0) {
            text();
            return;
        }
        int place = in(0, 265);
        int v = in(0, 1);
        due("land " + place + " " + v, globe.land(place, v), model.land(place, v));
    }

    private void told() {
        int what = in(0, 2);
        int v = what == 0 ? in(10, 200) : what == 2 ? in(0, 3) : random.nextBoolean() ? in(0, 13)
            : Model.NUMBERS[random.nextInt(6)];
        due("tell " + what + " " + v, globe.tell(what, v), model.tell(what, v));
    }

    private void routed() {
        int place = in(0, 265);
        int of = model.stop(random.nextInt(9));
        switch (random.nextInt(8)) {
            case 0 -> due("reverse", globe.reverse(), model.reverse());
            case 1 -> due("out " + of, globe.out(of), model.out(of));
            case 2 -> due("out " + place, globe.out(place), model.out(place));
            case 3 -> due("add " + of, globe.add(of), model.add(of));
            default -> due("add " + place, globe.add(place), model.add(place));
        }
    }

    private void done() {
        int n = in(1, 40);
        int v = random.nextBoolean() ? random.nextInt() : in(0, 100);
        int letter = in(32, 126);
        switch (random.nextInt(14)) {
            case 0, 1 -> walls();
            case 2 -> told();
            case 3, 4 -> routed();
            case 5, 6 -> text();
            case 7 -> due("type " + letter, globe.type(letter), model.type(letter));
            case 8 -> due("read", globe.read(), model.read());
            case 9 -> due("drift " + n, globe.drift(n), model.drift(n));
            case 10 -> due("undo", globe.undo(), model.undo());
            case 11 -> due("seed " + v, globe.seed(v), model.seed(v));
            case 12 -> due("image", globe.image(), model.image());
            default -> {
                due("restore", globe.restore(), model.restore());
                state();
            }
        }
        if (random.nextInt(8) == 0) {
            state();
        }
    }

    private void state() {
        for (int what = 0; what < 7; what++) {
            due("count " + what, globe.count(what), model.count(what));
        }
        for (int i = 0; i < 9; i++) {
            due("stop " + i, globe.stop(i), model.stop(i));
        }
        for (int i = 0; i < 24; i++) {
            int l = random.nextInt(13) - 6;
            int m = random.nextInt(24);
            due("place " + l + " " + m + " 1", globe.place(l, m, 1), model.place(l, m, 1));
        }
    }

    private void text() {
        StringBuilder text = new StringBuilder();
        int rows = 1 + random.nextInt(4);
        for (int i = 0; i < rows; i++) {
            text.append(i == 0 ? "" : ";").append(random.nextBoolean() ? "-" : "").append(random.nextInt(7)).append(':');
            int runs = 1 + random.nextInt(3);
            for (int j = 0; j < runs; j++) {
                text.append(j == 0 ? "" : ",").append(random.nextInt(24));
                text.append(random.nextBoolean() ? "" : "-" + random.nextInt(24));
            }
        }
        int spoiled = random.nextInt(3);
        for (int i = 0; i < spoiled; i++) {
            String letters = "   -;:,0123456789x";
            char letter = letters.charAt(random.nextInt(letters.length()));
            int at = random.nextInt(text.length() + 1);
            if (random.nextBoolean() && at < text.length()) {
                text.setCharAt(at, letter);
            } else {
                text.insert(at, letter);
            }
        }
        if (random.nextInt(6) == 0) {
            text.setLength(random.nextInt(text.length() + 1));
        }
        for (int i = 0; i < text.length(); i++) {
            due("type", globe.type(text.charAt(i)), model.type(text.charAt(i)));
        }
        due("read " + text, globe.read(), model.read());
    }

    private void sheets() {
        int sheet = in(0, 3);
        int lane = random.nextInt(3) == 0 ? in(0, 3) : 2;
        int i = random.nextBoolean() ? in(0, 6) : in(0, 30);
        int l = in(-6, 6);
        int n = random.nextBoolean() ? in(24, 30) : in(0, 30);
        long v = random.nextBoolean() ? random.nextInt(24) : random.nextLong();
        switch (random.nextInt(12)) {
            case 0, 1 -> due("sheet " + sheet + " " + lane + " " + n, globe.sheet(sheet, lane, n),
                model.sheet(sheet, lane, n));
            case 2 -> due("film " + l + " " + sheet + " " + lane + " " + i, globe.film(l, sheet, lane, i),
                model.film(l, sheet, lane, i));
            case 3 -> due("item", globe.item(sheet, lane, i, v), model.item(sheet, lane, i, v));
            case 4 -> copied(sheet, i);
            case 5 -> {
                if (random.nextInt(4) == 0) {
                    due("drop " + sheet, globe.drop(sheet), model.drop(sheet));
                }
            }
            case 6 -> told();
            case 7 -> filmed(sheet, lane);
            default -> sightings(sheet, lane);
        }
    }

    private void copied(int from, int i) {
        int to = in(0, 3);
        int j = in(0, 30);
        int n = in(0, 8);
        due("copy " + from + " " + i + " " + to + " " + j + " " + n, globe.copy(from, i, to, j, n),
            model.copy(from, i, to, j, n));
    }

    /** What film wrote is looked at item by item: as an X that seen is asked for. */
    private void filmed(int sheet, int lane) {
        int l = in(-6, 6);
        due("film", globe.film(l, sheet, lane, 0), model.film(l, sheet, lane, 0));
        for (int i = 0; i < 24; i++) {
            due("copy", globe.copy(sheet, i, sheet, 26, 1), model.copy(sheet, i, sheet, 26, 1));
            due("item", globe.item(sheet, lane, 24, l), model.item(sheet, lane, 24, l));
            due("item", globe.item(sheet, lane, 25, i), model.item(sheet, lane, 25, i));
            due("seen", globe.seen(sheet, lane, 24, 1), model.seen(sheet, lane, 24, 1));
        }
    }

    private void sightings(int sheet, int lane) {
        int n = in(1, 8);
        int i = random.nextBoolean() ? 0 : in(0, 30);
        int strips = Model.NUMBERS[random.nextInt(6)];
        int u = model.count(0);
        for (int at = 0; at < 30; at += 3) {
            int l = in(-6, 6);
            int m = in(0, 23);
            int w = 24 / strips;
            int its = Math.abs(l) == 6 ? 0 : m;
            long x = (2L * (its / w) + 1) * w * u;
            x += (2L * (its % w) - w) * u * new int[] {10000, 9659, 8660, 7071, 5000, 2588, 0}[Math.abs(l % 7)] / 10000;
            due("item", globe.item(sheet, lane, i + at, l), model.item(sheet, lane, i + at, l));
            due("item", globe.item(sheet, lane, i + at + 1, m), model.item(sheet, lane, i + at + 1, m));
            due("item", globe.item(sheet, lane, i + at + 2, x), model.item(sheet, lane, i + at + 2, x));
        }
        due("seen " + sheet + " " + lane + " " + i + " " + n, globe.seen(sheet, lane, i, n),
            model.seen(sheet, lane, i, n));
    }
}
