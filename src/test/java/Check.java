/** Counts the answers that are not as due; a test ends by {@link #end}. Also what several tests need. */
final class Check {
    /** All places, in just the 90 letters that a tape takes. */
    static final String ALL = "-6:0;-5:0-23;-4:0-23;-3:0-23;-2:0-23;-1:0-23;"
        + "0:0-23;1:0-23;2:0-23;3:0-23;4:0-23;5:0-23;6:0";
    /** The numbers of STRIPS that may be told. */
    static final int[] NUMBERS = {2, 3, 4, 6, 8, 12};

    private int wrong;
    private int asked;

    void due(String call, long got, long want) {
        asked++;
        if (got != want) {
            wrong++;
            System.out.println(call + " answered " + got + ", due is " + want);
        }
    }

    void holds(String what, boolean isSo) {
        asked++;
        if (!isSo) {
            wrong++;
            System.out.println("does not hold: " + what);
        }
    }

    boolean isWrong() {
        return wrong > 0;
    }

    void end() {
        System.out.println(asked + " answers, " + wrong + " not as due");
        if (wrong > 0) {
            System.exit(1);
        }
    }

    /** Types a whole text. */
    static void type(GoreGlobe globe, String text) {
        for (int i = 0; i < text.length(); i++) {
            globe.type(text.charAt(i));
        }
    }

    /** Types a whole text and reads it. */
    static int read(GoreGlobe globe, String text) {
        type(globe, text);
        return globe.read();
    }

    static GoreGlobe told(int u, int strips, int caps) {
        GoreGlobe globe = new GoreGlobe();
        globe.tell(0, u);
        globe.tell(1, strips);
        globe.tell(2, caps);
        return globe;
    }

    /** The number of a place, as the document tells it. */
    static int number(int l, int m) {
        return l == -6 ? 0 : l == 6 ? 265 : 1 + 24 * (l + 5) + m;
    }

    static int rowOf(int number) {
        return number == 0 ? -6 : (number - 1) / 24 - 5;
    }

    static int stepOf(int number) {
        return number == 0 || number == 265 ? 0 : (number - 1) % 24;
    }
}
