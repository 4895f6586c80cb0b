import java.util.Arrays;

/** A globe made of paper, as ../shared/DOC.md tells it; the numbers in the comments are its promises. */
public final class GoreGlobe {
    public static final int BAD = -1, NOT = -2, FULL = -3, NONE = -4, NULL = -11, CAST = -12, INDEX = -13, SIZE = -14;

    private static final int SHEETS = 4, LANES = 4, MOST_SEEN = 8, MOST_TURNS = 40, MOST_AROUND_WHEEL = 10000;
    private static final int FIRST_FAULT = -20;
    private static final int[] STRIP_NUMBERS = {2, 3, 4, 6, 8, 12};

    private final Globe now = new Globe();
    private final Past past = new Past();
    private final Globe imaged = new Globe();
    private final Past imagedPast = new Past();
    private boolean hasImage;
    private final Tape tape = new Tape();
    private final Sheet[] sheets = new Sheet[SHEETS];
    private final Seas seas = new Seas();
    private final Ways ways = new Ways();
    private final WorstPair worstPair = new WorstPair();
    private final Odds odds = new Odds();

    /** Promise 1. All rows that the calls need are made here, so that no call makes an object. */
    public GoreGlobe() {
        for (int i = 0; i < SHEETS; i++) {
            sheets[i] = new Sheet();
        }
    }

    // ---- 1 places, paper

    /** Promise 2. */
    public int place(int l, int m, int what) {
        if (!Grid.isPlace(l, m) || !isIn(what, 0, 4)) {
            return BAD;
        }
        int number = Grid.numberOf(l, m);
        switch (what) {
            case 0:
                return number;
            case 1:
                return now.isLand(number) ? 1 : 0;
            case 2:
                seas.chart(now);
                return seas.seaOf[number];
            case 3:
                return now.isOnStrips(l) ? Grid.stepOf(number) / now.width() : NONE;
            default:
                return now.isOnCap(l) ? 1 : 0;
        }
    }

    /** Promise 3. */
    public int flat(int l, int m, int what) {
        if (!Grid.isPlace(l, m) || !isIn(what, 0, 4)) {
            return BAD;
        }
        int step = Grid.stepOf(Grid.numberOf(l, m));
        boolean isThere = what <= 2 ? now.isOnStrips(l) : now.isOnCap(l);
        if (!isThere) {
            return NONE;
        }
        switch (what) {
            case 0:
                return Paper.stripX(now.unit, now.width(), l, step);
            case 1:
                return Paper.stripY(now.unit, l);
            case 2:
                return Paper.twinX(now, l, step);
            case 3:
                return Paper.capX(now, l, step);
            default:
                return Paper.capY(now, l, step);
        }
    }

    /** Promise 4. */
    public int back(int paper, int x, int y) {
        if (!isIn(paper, 0, 2)) {
            return BAD;
        }
        int cap = 4 * now.unit * now.caps;
        int wide = paper == 0 ? 48 * now.unit : cap;
        int high = paper == 0 ? 24 * now.unit : cap;
        if (!isIn(x, 0, wide) || !isIn(y, 0, high)) {
            return BAD;
        }
        if (paper == 0) {
            return Paper.foundOnStrips(now, x, y);
        }
        return now.caps == 0 ? NONE : Paper.foundOnCap(now, paper == 1, x, y);
    }

    /** Promise 5. */
    public int pair(int one, int other, int what) {
        if (!Grid.isNumber(one) || !Grid.isNumber(other) || !isIn(what, 0, 1)) {
            return BAD;
        }
        if (!Grid.areNeighbours(one, other)) {
            return NOT;
        }
        if (what == 0) {
            return now.far(Grid.rowOf(one), Grid.rowOf(other));
        }
        return now.areOnStrips(one, other) ? Paper.straight(now, one, other) : NONE;
    }

    /** Promise 6. */
    public int worst(int what) {
        if (!isIn(what, 0, 2)) {
            return BAD;
        }
        worstPair.seek(now);
        if (what == 0) {
            return worstPair.off;
        }
        return what == 1 ? worstPair.lesser : worstPair.greater;
    }

    // ---- 2 ways

    /** Promise 7. */
    public int way(int from, int to, int what) {
        if (!Grid.isNumber(from) || !Grid.isNumber(to) || !isIn(what, 0, 2)) {
            return BAD;
        }
        // Spread from the end of the way: then the costs tell which first steps are on a shortest one.
        ways.spread(now, to, from);
        int cost = ways.cost[from];
        if (cost == Ways.UNREACHED) {
            return NONE;
        }
        switch (what) {
            case 0:
                return Ways.farOf(cost);
            case 1:
                return Ways.stepsOf(cost);
            default:
                return ways.leastFirstStep(now, from);
        }
    }

    /** Promise 8. */
    public int sea(int k, int what) {
        seas.chart(now);
        if (!isIn(k, 0, seas.number - 1) || !isIn(what, 0, 2)) {
            return BAD;
        }
        switch (what) {
            case 0:
                return seas.sizeOf(k);
            case 1:
                return seas.leastOf(k);
            default:
                return seas.greatestOf(k);
        }
    }

    /** Promise 9. */
    public int stop(int i) {
        if (i < 0) {
            return BAD;
        }
        return i < now.stopNumber ? now.stops[i] : NONE;
    }

    /** Promise 10. */
    public int route(int what) {
        if (!isIn(what, 0, 1)) {
            return BAD;
        }
        return what == 0 ? now.stopNumber : routeLength();
    }

    /** Promise 11. */
    public int rolled(int v, int what) {
        if (!isIn(v, 1, MOST_AROUND_WHEEL) || !isIn(what, 0, 1)) {
            return BAD;
        }
        int length = routeLength();
        if (length == NONE) {
            return NONE;
        }
        return what == 0 ? length / v : length % v;
    }

    /** Promise 12. */
    public long lost(int c, int what) {
        if (!isIn(c, 0, Odds.TEN) || !isIn(what, 0, 1)) {
            return BAD;
        }
        odds.reckon(now, c);
        return what == 0 ? odds.above : odds.below;
    }

    /** Promise 13. */
    public int count(int what) {
        switch (what) {
            case 0:
                return now.unit;
            case 1:
                return now.strips;
            case 2:
                return now.caps;
            case 3:
                return now.landNumber();
            case 4:
                seas.chart(now);
                return seas.number;
            case 5:
                return now.landNumberOnStrips();
            case 6:
                return past.known;
            default:
                return BAD;
        }
    }

    // ---- 3 what is done

    /** Promise 14. */
    public int land(int place, int v) {
        if (!Grid.isNumber(place) || !isIn(v, 0, 1)) {
            return BAD;
        }
        if (now.isLand(place) == (v == 1)) {
            return NOT;
        }
        past.keep(now);
        now.turnOver(place);
        return now.landNumber();
    }

    /** Promise 15. */
    public int tell(int what, int v) {
        if (!mayBeTold(what, v)) {
            return BAD;
        }
        int before = what == 0 ? now.unit : what == 1 ? now.strips : now.caps;
        if (before == v) {
            return NOT;
        }
        past.keep(now);
        if (what == 0) {
            now.unit = v;
        } else if (what == 1) {
            now.strips = v;
        } else {
            now.caps = v;
        }
        return before;
    }

    /** Promise 16. */
    public int add(int place) {
        if (!Grid.isNumber(place)) {
            return BAD;
        }
        if (now.stopNumber >= Globe.MOST_STOPS) {
            return FULL;
        }
        past.keep(now);
        now.stops[now.stopNumber] = place;
        now.stopNumber++;
        return now.stopNumber;
    }

    /** Promise 17. */
    public int out(int place) {
        if (!Grid.isNumber(place)) {
            return BAD;
        }
        if (!now.stopsAt(place)) {
            return NONE;
        }
        past.keep(now);
        return now.withoutStop(place);
    }

    /** Promise 18. */
    public int reverse() {
        if (now.stopNumber < 2) {
            return NOT;
        }
        past.keep(now);
        now.turnRoute();
        return now.stops[0];
    }

    /** Promise 19. */
    public int type(int letter) {
        if (!isIn(letter, 32, 126)) {
            return BAD;
        }
        if (tape.length >= Tape.MOST) {
            return FULL;
        }
        tape.letters[tape.length] = letter;
        tape.length++;
        return tape.length;
    }

    /** Promise 20. */
    public int read() {
        int fault = tape.understand();
        tape.length = 0;
        if (fault != Tape.FAULTLESS) {
            return FIRST_FAULT - fault;
        }
        past.keep(now);
        System.arraycopy(tape.landBits, 0, now.landBits, 0, Globe.WORDS);
        return now.landNumber();
    }

    /** Promise 21. */
    public int drift(int n) {
        if (!isIn(n, 1, MOST_TURNS)) {
            return BAD;
        }
        for (int turn = 0; turn < n; turn++) {
            past.keep(now);
            now.driftOnce();
        }
        return now.landNumber();
    }

    /** Promise 22. */
    public int undo() {
        if (past.known == 0) {
            return NONE;
        }
        past.takeBack(now);
        return past.known;
    }

    /** Promise 23. */
    public int seed(int v) {
        if (v < 0) {
            return BAD;
        }
        int before = now.draw;
        now.draw = v;
        return before;
    }

    /** Promise 24. */
    public int image() {
        imaged.become(now);
        imagedPast.become(past);
        hasImage = true;
        return 1;
    }

    /** Promise 25. */
    public int restore() {
        if (!hasImage) {
            return NONE;
        }
        now.become(imaged);
        past.become(imagedPast);
        return 1;
    }

    // ---- sheets

    /** Promise 26. */
    public int seen(int sheet, int lane, int i, int n) {
        if (!isSheetOfLane(sheet, lane) || !isIn(n, 1, MOST_SEEN)) {
            return BAD;
        }
        Sheet row = sheets[sheet];
        int refusal = row.refusal(lane, i, 3 * n);
        if (refusal != 0) {
            return refusal;
        }
        for (int at = i; at < i + 3 * n; at += 3) {
            if (!row.tellsPlaceAt(at)) {
                return NOT;
            }
        }
        int set = 0;
        for (int bit = 0; bit < STRIP_NUMBERS.length; bit++) {
            if (row.agreesWith(now.unit, Grid.AROUND / STRIP_NUMBERS[bit], i, n)) {
                set |= 1 << bit;
            }
        }
        return set;
    }

    /** Promise 27. */
    public int film(int l, int sheet, int lane, int i) {
        if (!Grid.isPlace(l, 0) || !isSheetOfLane(sheet, lane)) {
            return BAD;
        }
        if (!now.isOnStrips(l)) {
            return NOT;
        }
        Sheet row = sheets[sheet];
        int refusal = row.refusal(lane, i, Grid.AROUND);
        if (refusal != 0) {
            return refusal;
        }
        for (int m = 0; m < Grid.AROUND; m++) {
            int step = Grid.stepOf(Grid.numberOf(l, m));
            row.put(i + m, Paper.stripX(now.unit, now.width(), l, step));
        }
        return Grid.AROUND;
    }

    /** Promise 28. */
    public int sheet(int sheet, int lane, int n) {
        if (!isSheetOfLane(sheet, lane) || n > Sheet.MOST) {
            return BAD;
        }
        if (n < 0) {
            return SIZE;
        }
        sheets[sheet].renew(lane, n);
        return n;
    }

    /** Promise 29. */
    public int drop(int sheet) {
        if (!isIn(sheet, 0, SHEETS - 1)) {
            return BAD;
        }
        Sheet row = sheets[sheet];
        if (!row.isHeld) {
            return NULL;
        }
        row.isHeld = false;
        return row.size;
    }

    /** Promise 30. */
    public int item(int sheet, int lane, int i, long v) {
        if (!isSheetOfLane(sheet, lane)) {
            return BAD;
        }
        int refusal = sheets[sheet].refusal(lane, i, 1);
        if (refusal != 0) {
            return refusal;
        }
        sheets[sheet].put(i, v);
        return 1;
    }

    /** Promise 31. */
    public int copy(int from, int i, int to, int j, int n) {
        if (!isIn(from, 0, SHEETS - 1) || !isIn(to, 0, SHEETS - 1)) {
            return BAD;
        }
        Sheet source = sheets[from];
        Sheet target = sheets[to];
        if (!source.isHeld || !target.isHeld) {
            return NULL;
        }
        if (source.lane != target.lane) {
            return CAST;
        }
        if (!source.hasItems(i, n) || !target.hasItems(j, n)) {
            return INDEX;
        }
        System.arraycopy(source.items, i, target.items, j, n);
        return n;
    }

    // ---- helpers of the face

    private static boolean isIn(int v, int least, int greatest) {
        return v >= least && v <= greatest;
    }

    private static boolean isSheetOfLane(int sheet, int lane) {
        return isIn(sheet, 0, SHEETS - 1) && isIn(lane, 0, LANES - 1);
    }

    private static boolean mayBeTold(int what, int v) {
        switch (what) {
            case 0:
                return isIn(v, 10, 200);
            case 1:
                return isStripNumber(v);
            case 2:
                return isIn(v, 0, 3);
            default:
                return false;
        }
    }

    private static boolean isStripNumber(int v) {
        for (int known : STRIP_NUMBERS) {
            if (known == v) {
                return true;
            }
        }
        return false;
    }

    /** The LENGTH of THE ROUTE, or NONE. */
    private int routeLength() {
        int length = 0;
        for (int i = 1; i < now.stopNumber; i++) {
            int from = now.stops[i - 1];
            int to = now.stops[i];
            ways.spread(now, from, to);
            int cost = ways.cost[to];
            if (cost == Ways.UNREACHED) {
                return NONE;
            }
            length += Ways.farOf(cost);
        }
        return length;
    }

    /** Numbers, rows and neighbours of places: all that doesn't depend on what is told. */
    private static final class Grid {
        static final int AROUND = 24, POLE_ROW = 6, PLACES = 266, SOUTH_POLE = 0, NORTH_POLE = PLACES - 1;
        static final int WHOLE = 10000;
        private static final int[] SINES = {
            0, 2588, 5000, 7071, 8660, 9659, 10000, 9659, 8660, 7071, 5000, 2588,
            0, -2588, -5000, -7071, -8660, -9659, -10000, -9659, -8660, -7071, -5000, -2588};

        static boolean isPlace(int l, int m) {
            return l >= -POLE_ROW && l <= POLE_ROW && m >= 0 && m < AROUND;
        }

        static boolean isNumber(int place) {
            return place >= SOUTH_POLE && place <= NORTH_POLE;
        }

        static boolean isPole(int place) {
            return place == SOUTH_POLE || place == NORTH_POLE;
        }

        static int numberOf(int l, int m) {
            if (l == -POLE_ROW) {
                return SOUTH_POLE;
            }
            return l == POLE_ROW ? NORTH_POLE : 1 + AROUND * (l + 5) + m;
        }

        static int rowOf(int place) {
            if (place == SOUTH_POLE) {
                return -POLE_ROW;
            }
            return (place - 1) / AROUND - 5;
        }

        /** The m of a place; a pole counts as m 0. */
        static int stepOf(int place) {
            return isPole(place) ? 0 : (place - 1) % AROUND;
        }

        static int sine(int m) {
            return SINES[m];
        }

        static int cosine(int m) {
            return SINES[(m + 6) % AROUND];
        }

        static int rowCosine(int l) {
            return SINES[6 + (l < 0 ? -l : l)];
        }

        static int neighbourNumber(int place) {
            return isPole(place) ? AROUND : 4;
        }

        /** The neighbours in such an order that those of a greater number come by their numbers. */
        static int neighbour(int place, int i) {
            if (place == SOUTH_POLE) {
                return 1 + i;
            }
            if (place == NORTH_POLE) {
                return NORTH_POLE - AROUND + i;
            }
            int m = stepOf(place);
            switch (i) {
                case 0:
                    return Math.max(SOUTH_POLE, place - AROUND);
                case 1:
                    return m == AROUND - 1 ? place - m : place + 1;
                case 2:
                    return m == 0 ? place + AROUND - 1 : place - 1;
                default:
                    return Math.min(NORTH_POLE, place + AROUND);
            }
        }

        static boolean areNeighbours(int one, int other) {
            for (int i = 0; i < neighbourNumber(one); i++) {
                if (neighbour(one, i) == other) {
                    return true;
                }
            }
            return false;
        }
    }

    /** All that is undone and imaged: what is told of the paper, the land, the route, the draw. */
    private static final class Globe {
        static final int MOST_STOPS = 8, WORDS = 5;
        private static final int DRAW_BITS = 0x7fffffff;

        // 266 bits: a globe is kept for each turn of a drift, so it had better be small.
        final long[] landBits = new long[WORDS];
        final int[] stops = new int[MOST_STOPS];
        int stopNumber;
        int unit = 60;
        int strips = 12;
        int caps = 1;
        int draw = 1;

        void become(Globe other) {
            System.arraycopy(other.landBits, 0, landBits, 0, WORDS);
            System.arraycopy(other.stops, 0, stops, 0, MOST_STOPS);
            stopNumber = other.stopNumber;
            unit = other.unit;
            strips = other.strips;
            caps = other.caps;
            draw = other.draw;
        }

        boolean isLand(int place) {
            return (landBits[place >> 6] >>> (place & 63) & 1L) != 0;
        }

        void turnOver(int place) {
            landBits[place >> 6] ^= 1L << (place & 63);
        }

        int landNumber() {
            int number = 0;
            for (long word : landBits) {
                number += Long.bitCount(word);
            }
            return number;
        }

        int landNumberOnStrips() {
            int number = 0;
            for (int place = 0; place < Grid.PLACES; place++) {
                if (isLand(place) && isOnStrips(Grid.rowOf(place))) {
                    number++;
                }
            }
            return number;
        }

        /** How many steps a strip is wide. */
        int width() {
            return Grid.AROUND / strips;
        }

        boolean isOnStrips(int l) {
            return Math.abs(l) <= Grid.POLE_ROW - caps;
        }

        boolean areOnStrips(int one, int other) {
            return isOnStrips(Grid.rowOf(one)) && isOnStrips(Grid.rowOf(other));
        }

        boolean isOnCap(int l) {
            return caps > 0 && Math.abs(l) >= Grid.POLE_ROW - caps;
        }

        /** FAR of two neighbours in these rows. */
        int far(int l, int otherL) {
            return l == otherL ? 2 * unit * Grid.rowCosine(l) / Grid.WHOLE : 2 * unit;
        }

        boolean stopsAt(int place) {
            for (int i = 0; i < stopNumber; i++) {
                if (stops[i] == place) {
                    return true;
                }
            }
            return false;
        }

        /** Takes a place out of the route: how many times it stood there. */
        int withoutStop(int place) {
            int left = 0;
            for (int i = 0; i < stopNumber; i++) {
                if (stops[i] != place) {
                    stops[left] = stops[i];
                    left++;
                }
            }
            int taken = stopNumber - left;
            stopNumber = left;
            return taken;
        }

        void turnRoute() {
            for (int i = 0; i < stopNumber / 2; i++) {
                int mirrored = stopNumber - 1 - i;
                int stop = stops[i];
                stops[i] = stops[mirrored];
                stops[mirrored] = stop;
            }
        }

        void driftOnce() {
            draw = (draw * 1103515245 + 12345) & DRAW_BITS;
            turnOver(draw / 65536 % Grid.PLACES);
        }
    }

    /** The globes ahead of the latest changes, in a ring in which a new one takes the oldest one's room. */
    private static final class Past {
        private static final int MOST = 6;

        final Globe[] ring = new Globe[MOST];
        int oldest;
        int known;

        Past() {
            for (int i = 0; i < MOST; i++) {
                ring[i] = new Globe();
            }
        }

        void keep(Globe globe) {
            ring[(oldest + known) % MOST].become(globe);
            if (known < MOST) {
                known++;
            } else {
                oldest = (oldest + 1) % MOST;
            }
        }

        /** Only called while something is known. */
        void takeBack(Globe globe) {
            known--;
            globe.become(ring[(oldest + known) % MOST]);
        }

        void become(Past other) {
            for (int i = 0; i < MOST; i++) {
                ring[i].become(other.ring[i]);
            }
            oldest = other.oldest;
            known = other.known;
        }
    }

    /** Where places lie on strips and caps, and which place lies somewhere. */
    private static final class Paper {
        private static final int FURTHER_THAN_ALL = 0x7fffffff;

        /** X of step j of strip g in a row; what is cut off is cut off its way from the strip's middle. */
        static int xOnStrip(int unit, int width, int g, int j, int l) {
            return (2 * g + 1) * width * unit + (2 * j - width) * unit * Grid.rowCosine(l) / Grid.WHOLE;
        }

        static int stripX(int unit, int width, int l, int step) {
            int g = step / width;
            return xOnStrip(unit, width, g, step - width * g, l);
        }

        static int stripY(int unit, int l) {
            return 2 * unit * (l + Grid.POLE_ROW);
        }

        static int twinX(Globe globe, int l, int step) {
            int width = globe.width();
            if (step % width != 0) {
                return NONE;
            }
            int ahead = step == 0 ? globe.strips - 1 : step / width - 1;
            return xOnStrip(globe.unit, width, ahead, width, l);
        }

        static int capX(Globe globe, int l, int step) {
            int aside = capRadius(globe, l) * Grid.sine(step) / Grid.WHOLE;
            return capMiddle(globe) + (l > 0 ? aside : -aside);
        }

        static int capY(Globe globe, int l, int step) {
            return capMiddle(globe) + capRadius(globe, l) * Grid.cosine(step) / Grid.WHOLE;
        }

        private static int capMiddle(Globe globe) {
            return 2 * globe.unit * globe.caps;
        }

        private static int capRadius(Globe globe, int l) {
            return 2 * globe.unit * (Grid.POLE_ROW - Math.abs(l));
        }

        static int foundOnStrips(Globe globe, int x, int y) {
            int unit = globe.unit;
            int width = globe.width();
            int l = (y + unit) / (2 * unit) - Grid.POLE_ROW;
            int g = Math.min(x / (2 * width * unit), globe.strips - 1);
            int fromMiddle = Math.abs(x - (2 * g + 1) * width * unit);
            if (!globe.isOnStrips(l) || fromMiddle > width * unit * Grid.rowCosine(l) / Grid.WHOLE) {
                return NONE;
            }
            int closest = 0;
            for (int j = 1; j <= width; j++) {
                int best = Math.abs(x - xOnStrip(unit, width, g, closest, l));
                if (Math.abs(x - xOnStrip(unit, width, g, j, l)) < best) {
                    closest = j;
                }
            }
            return Grid.numberOf(l, (width * g + closest) % Grid.AROUND);
        }

        /** Only called if there are caps. */
        static int foundOnCap(Globe globe, boolean isNorth, int x, int y) {
            int first = isNorth ? Grid.NORTH_POLE - Grid.AROUND * globe.caps : Grid.SOUTH_POLE;
            int last = first + Grid.AROUND * globe.caps;
            int found = first;
            int least = FURTHER_THAN_ALL;
            for (int place = first; place <= last; place++) {
                int l = Grid.rowOf(place);
                int step = Grid.stepOf(place);
                int offX = x - capX(globe, l, step);
                int offY = y - capY(globe, l, step);
                int off = offX * offX + offY * offY;
                if (off < least) {
                    least = off;
                    found = place;
                }
            }
            return found;
        }

        /** STRAIGHT of two neighbours whose rows are on strips. */
        static int straight(Globe globe, int one, int other) {
            int unit = globe.unit;
            int width = globe.width();
            int l = Grid.rowOf(one);
            int otherL = Grid.rowOf(other);
            if (l == otherL) {
                int west = western(Grid.stepOf(one), Grid.stepOf(other));
                int g = west / width;
                int j = west - width * g;
                return Math.abs(xOnStrip(unit, width, g, j + 1, l) - xOnStrip(unit, width, g, j, l));
            }
            // A pole lies on all strips: it is measured on the other one's.
            int step = Grid.stepOf(Grid.isPole(one) ? other : one);
            int g = step / width;
            int j = step - width * g;
            int aside = xOnStrip(unit, width, g, j, l) - xOnStrip(unit, width, g, j, otherL);
            return root(aside * aside + 4 * unit * unit);
        }

        private static int western(int step, int otherStep) {
            return (step + 1) % Grid.AROUND == otherStep ? step : otherStep;
        }

        /** The root, cut; 13 bits are enough, since a strip is at most 4800 halves wide. */
        private static int root(int square) {
            int root = 0;
            for (int bit = 1 << 12; bit > 0; bit >>= 1) {
                int tried = root + bit;
                if (tried * tried <= square) {
                    root = tried;
                }
            }
            return root;
        }
    }

    /** The pair of neighbours that the paper shows worst. */
    private static final class WorstPair {
        int off;
        int lesser;
        int greater;

        void seek(Globe globe) {
            off = -1;
            for (int one = 0; one < Grid.PLACES; one++) {
                for (int i = 0; i < Grid.neighbourNumber(one); i++) {
                    int other = Grid.neighbour(one, i);
                    if (other > one && globe.areOnStrips(one, other)) {
                        consider(globe, one, other);
                    }
                }
            }
        }

        /** Pairs come by their numbers: of like ones the first stays. */
        private void consider(Globe globe, int one, int other) {
            int far = globe.far(Grid.rowOf(one), Grid.rowOf(other));
            int itsOff = Math.abs(Paper.straight(globe, one, other) - far);
            if (itsOff > off) {
                off = itsOff;
                lesser = one;
                greater = other;
            }
        }
    }

    /** Which sea places hang together. */
    private static final class Seas {
        private static final int UNCHARTED = -1;

        /** The sea of each place, NONE of land. */
        final int[] seaOf = new int[Grid.PLACES];
        private final int[] queue = new int[Grid.PLACES];
        int number;

        void chart(Globe globe) {
            for (int place = 0; place < Grid.PLACES; place++) {
                seaOf[place] = globe.isLand(place) ? NONE : UNCHARTED;
            }
            number = 0;
            for (int place = 0; place < Grid.PLACES; place++) {
                if (seaOf[place] == UNCHARTED) {
                    fill(place, number);
                    number++;
                }
            }
        }

        /** A place is charted as it comes to the queue, so the queue holds each place once at most. */
        private void fill(int first, int sea) {
            int filled = 1;
            queue[0] = first;
            seaOf[first] = sea;
            for (int at = 0; at < filled && at < Grid.PLACES; at++) {
                int place = queue[at];
                for (int i = 0; i < Grid.neighbourNumber(place); i++) {
                    int next = Grid.neighbour(place, i);
                    if (seaOf[next] == UNCHARTED && filled < Grid.PLACES) {
                        seaOf[next] = sea;
                        queue[filled] = next;
                        filled++;
                    }
                }
            }
        }

        int sizeOf(int sea) {
            int size = 0;
            for (int its : seaOf) {
                if (its == sea) {
                    size++;
                }
            }
            return size;
        }

        int leastOf(int sea) {
            int place = 0;
            while (place < Grid.PLACES - 1 && seaOf[place] != sea) {
                place++;
            }
            return place;
        }

        int greatestOf(int sea) {
            int place = Grid.PLACES - 1;
            while (place > 0 && seaOf[place] != sea) {
                place--;
            }
            return place;
        }
    }

    /** Shortest ways: a cost is FAR and, below it, the steps, so that the least cost has the fewest steps. */
    private static final class Ways {
        static final int UNREACHED = 0x7fffffff;
        // A way of fewest steps comes to no place twice, so 9 bits hold its steps, and a place's number, too.
        private static final int STEP_BITS = 9, STEP_MASK = (1 << STEP_BITS) - 1;
        // Each place goes on once to each neighbour: 1104 times in all.
        private static final int MOST_WAITING = 1105;

        final int[] cost = new int[Grid.PLACES];
        /** A binary heap of costs with their places below them. */
        private final long[] heap = new long[MOST_WAITING];
        private int waiting;

        static int farOf(int cost) {
            return cost >> STEP_BITS;
        }

        static int stepsOf(int cost) {
            return cost & STEP_MASK;
        }

        /** Finds the costs of all places that are no dearer than the last one. */
        void spread(Globe globe, int first, int last) {
            Arrays.fill(cost, UNREACHED);
            waiting = 0;
            if (globe.isLand(first) || globe.isLand(last)) {
                return;
            }
            reach(first, 0);
            for (int turn = 0; turn < MOST_WAITING && waiting > 0; turn++) {
                long least = takeLeast();
                int place = (int) (least & STEP_MASK);
                if (place == last) {
                    return;
                }
                if (cost[place] == (int) (least >> STEP_BITS)) {
                    goOn(globe, place);
                }
            }
        }

        private void goOn(Globe globe, int place) {
            for (int i = 0; i < Grid.neighbourNumber(place); i++) {
                int next = Grid.neighbour(place, i);
                int itsCost = cost[place] + stepCost(globe, place, next);
                if (!globe.isLand(next) && itsCost < cost[next]) {
                    reach(next, itsCost);
                }
            }
        }

        private static int stepCost(Globe globe, int place, int next) {
            return (globe.far(Grid.rowOf(place), Grid.rowOf(next)) << STEP_BITS) + 1;
        }

        /** Of the steps from a place towards the place spread from; NONE, if it is that place. */
        int leastFirstStep(Globe globe, int place) {
            int least = NONE;
            for (int i = 0; i < Grid.neighbourNumber(place); i++) {
                int next = Grid.neighbour(place, i);
                boolean isShortest = cost[next] != UNREACHED
                    && cost[next] + stepCost(globe, place, next) == cost[place];
                if (isShortest && (least == NONE || next < least)) {
                    least = next;
                }
            }
            return least;
        }

        private void reach(int place, int itsCost) {
            cost[place] = itsCost;
            if (waiting >= MOST_WAITING) {
                return;
            }
            long entry = ((long) itsCost << STEP_BITS) + place;
            int at = waiting;
            waiting++;
            while (at > 0 && heap[(at - 1) / 2] > entry) {
                heap[at] = heap[(at - 1) / 2];
                at = (at - 1) / 2;
            }
            heap[at] = entry;
        }

        /** Only called while something waits. */
        private long takeLeast() {
            long least = heap[0];
            waiting--;
            long entry = heap[waiting];
            int at = 0;
            for (int child = 1; child < waiting; child = 2 * at + 1) {
                if (child + 1 < waiting && heap[child + 1] < heap[child]) {
                    child++;
                }
                if (heap[child] >= entry) {
                    break;
                }
                heap[at] = heap[child];
                at = child;
            }
            heap[at] = entry;
            return least;
        }
    }

    /** The odds that no land is lost, counted in tenths of each strip's fate. */
    private static final class Odds {
        static final int TEN = 10;
        // The remainders of two numbers up to 10 to the 12th fall below 1 long before.
        private static final int MOST_DIVISIONS = 200;

        long above;
        long below;
        /** Bits of strips that must be left. */
        private int needed;
        /** Bits of strips that must be left, or else the one ahead of them. */
        private int cut;
        private boolean poleIsLand;

        void reckon(Globe globe, int c) {
            gather(globe);
            long all = 1;
            long allLost = 1;
            for (int g = 0; g < globe.strips; g++) {
                all *= TEN;
                allLost *= c;
            }
            long good = goodIfFirstIs(true, globe.strips, c) + goodIfFirstIs(false, globe.strips, c);
            if (poleIsLand && needed == 0 && cut == 0) {
                // A pole is on any strip: alone, it is lost only if all strips are.
                good -= allLost;
            }
            long divisor = Math.max(1, greatestDivisor(good, all));
            above = good / divisor;
            below = all / divisor;
        }

        private void gather(Globe globe) {
            needed = 0;
            cut = 0;
            poleIsLand = false;
            int width = globe.width();
            for (int place = 0; place < Grid.PLACES; place++) {
                if (!globe.isLand(place) || !globe.isOnStrips(Grid.rowOf(place))) {
                    continue;
                }
                int step = Grid.stepOf(place);
                if (Grid.isPole(place)) {
                    poleIsLand = true;
                } else if (step % width == 0) {
                    cut |= 1 << step / width;
                } else {
                    needed |= 1 << step / width;
                }
            }
        }

        /** From strip to strip only the last one's fate matters, but for the first, which lies beside the last. */
        private long goodIfFirstIs(boolean firstIsLeft, int strips, int c) {
            long left = firstIsLeft ? TEN - c : 0;
            long lost = firstIsLeft || hasBit(needed, 0) ? 0 : c;
            for (int g = 1; g < strips; g++) {
                long mayBeLostBehind = hasBit(cut, g) ? left : left + lost;
                left = (left + lost) * (TEN - c);
                lost = hasBit(needed, g) ? 0 : mayBeLostBehind * c;
            }
            return !firstIsLeft && hasBit(cut, 0) ? left : left + lost;
        }

        private static boolean hasBit(int bits, int g) {
            return (bits >> g & 1) != 0;
        }

        private static long greatestDivisor(long one, long other) {
            long divisor = one;
            long rest = other;
            for (int i = 0; i < MOST_DIVISIONS && rest != 0; i++) {
                long next = divisor % rest;
                divisor = rest;
                rest = next;
            }
            return divisor;
        }
    }

    /** THE TAPE, and how it is understood as a TEXT: each part answers FAULTLESS or the place of its fault. */
    private static final class Tape {
        static final int MOST = 90, FAULTLESS = -1;
        private static final int END = -1, GREATEST_ROW = 6;

        final int[] letters = new int[MOST];
        int length;
        /** The land that the text tells; whole only if it has no fault. */
        final long[] landBits = new long[Globe.WORDS];
        private int at;
        private int figures;

        int understand() {
            Arrays.fill(landBits, 0L);
            at = 0;
            for (int rows = 0; rows <= MOST; rows++) {
                int fault = understandRow();
                if (fault != FAULTLESS) {
                    return fault;
                }
                if (next() == END) {
                    return FAULTLESS;
                }
                if (!takes(';')) {
                    return at;
                }
            }
            return at;
        }

        private int understandRow() {
            boolean isSouth = takes('-');
            int l = next() - '0';
            if (l < 0 || l > GREATEST_ROW) {
                return at;
            }
            at++;
            if (!takes(':')) {
                return at;
            }
            for (int runs = 0; runs <= MOST; runs++) {
                int fault = understandRun(isSouth ? -l : l);
                if (fault != FAULTLESS) {
                    return fault;
                }
                if (!takes(',')) {
                    return FAULTLESS;
                }
            }
            return at;
        }

        private int understandRun(int l) {
            int fault = understandNumber();
            if (fault != FAULTLESS) {
                return fault;
            }
            int first = figures;
            if (takes('-')) {
                fault = understandNumber();
                if (fault != FAULTLESS) {
                    return fault;
                }
            }
            int steps = Math.floorMod(figures - first, Grid.AROUND);
            for (int step = 0; step <= steps; step++) {
                int place = Grid.numberOf(l, (first + step) % Grid.AROUND);
                landBits[place >> 6] |= 1L << (place & 63);
            }
            return FAULTLESS;
        }

        /** A third figure stays: it can't stand behind a number, whatever is looked for there. */
        private int understandNumber() {
            if (!isFigure(next())) {
                return at;
            }
            int start = at;
            figures = letters[at] - '0';
            at++;
            if (at < length && isFigure(letters[at])) {
                figures = 10 * figures + letters[at] - '0';
                at++;
            }
            return figures < Grid.AROUND ? FAULTLESS : start;
        }

        private static boolean isFigure(int letter) {
            return letter >= '0' && letter <= '9';
        }

        /** The next letter behind blanks, or END. */
        private int next() {
            while (at < length && letters[at] == ' ') {
                at++;
            }
            return at < length ? letters[at] : END;
        }

        private boolean takes(int letter) {
            boolean isNext = next() == letter;
            if (isNext) {
                at++;
            }
            return isNext;
        }
    }

    /** A sheet: nothing, or a row of a lane. The items of all lanes are held as longs that fit the lane. */
    private static final class Sheet {
        static final int MOST = 30;

        final long[] items = new long[MOST];
        boolean isHeld;
        int lane;
        int size;

        void renew(int newLane, int n) {
            Arrays.fill(items, 0L);
            isHeld = true;
            lane = newLane;
            size = n;
        }

        /** What the machine finds if n items from i on are taken of a row of a lane; 0: nothing is wrong. */
        int refusal(int asLane, int i, int n) {
            if (!isHeld) {
                return NULL;
            }
            if (lane != asLane) {
                return CAST;
            }
            return hasItems(i, n) ? 0 : INDEX;
        }

        boolean hasItems(int i, int n) {
            return n >= 0 && i >= 0 && i <= size && n <= size - i;
        }

        void put(int i, long v) {
            switch (lane) {
                case 0:
                    items[i] = (byte) v;
                    break;
                case 1:
                    items[i] = (short) v;
                    break;
                case 2:
                    items[i] = (int) v;
                    break;
                default:
                    items[i] = v;
                    break;
            }
        }

        boolean tellsPlaceAt(int i) {
            long l = items[i];
            long m = items[i + 1];
            return l >= -Grid.POLE_ROW && l <= Grid.POLE_ROW && m >= 0 && m < Grid.AROUND;
        }

        /** Whether all n places told from i on have their X on strips of this width; all are places. */
        boolean agreesWith(int unit, int width, int i, int n) {
            for (int at = i; at < i + 3 * n; at += 3) {
                int l = (int) items[at];
                int step = Grid.stepOf(Grid.numberOf(l, (int) items[at + 1]));
                if (Paper.stripX(unit, width, l, step) != items[at + 2]) {
                    return false;
                }
            }
            return true;
        }
    }
}
