/** Counts the answers that are not as due; a test ends by {@link #end}. */
final class Check {
    private int wrong;
    private int asked;

    void due(String call, long got, long want) {
        asked++;
        if (got != want) {
            wrong++;
            System.out.println(call + " answered " + got + ", due is " + want);
        }
    }

    void holds(String what, boolean isSo) {
        asked++;
        if (!isSo) {
            wrong++;
            System.out.println("does not hold: " + what);
        }
    }

    boolean isWrong() {
        return wrong > 0;
    }

    void end() {
        System.out.println(asked + " answers, " + wrong + " not as due");
        if (wrong > 0) {
            System.exit(1);
        }
    }

    /** Types a whole text and reads it. */
    static int read(GoreGlobe globe, String text) {
        for (int i = 0; i < text.length(); i++) {
            globe.type(text.charAt(i));
        }
        return globe.read();
    }
}
