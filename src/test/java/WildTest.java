import java.lang.reflect.InvocationTargetException;
import java.lang.reflect.Method;
import java.lang.reflect.Modifier;
import java.util.Arrays;

/** Each call with all its numbers at their edges and far beyond, in all mixtures: no call throws, all answer as Model. */
final class WildTest {
    private static final int MIN = Integer.MIN_VALUE, MAX = Integer.MAX_VALUE;
    /** How many calls are made on one object: with those that make it, fewer than 512. */
    private static final int CALLS = 340;
    /** By how many numbers a call takes: the more it takes, the fewer are mixed. */
    private static final int[][] NUMBERS = {
        {},
        {MIN, MIN + 1, -1000000, -25, -24, -7, -6, -2, -1, 0, 1, 2, 3, 4, 5, 6, 7, 8, 9, 10, 11, 12, 13, 23, 24, 25, 29, 30,
            31, 32, 39, 40, 41, 60, 89, 90, 91, 126, 127, 199, 200, 201, 264, 265, 266, 9999, 10000, 10001, MAX - 1, MAX},
        {MIN, -7, -6, -1, 0, 1, 2, 3, 4, 6, 7, 9, 10, 11, 12, 13, 23, 24, 200, 201, 265, 266, 10000, 10001, MAX},
        {MIN, -7, -6, -1, 0, 1, 2, 3, 4, 5, 6, 7, 23, 24, 30, 31, 121, 122, 145, 240, 241, 264, 265, 266, 2928, 2929, MAX},
        {MIN, -7, -6, -1, 0, 1, 2, 3, 4, 6, 7, 8, 9, 24, MAX},
        {MIN, -1, 0, 1, 2, 3, 4, 30, 31, MAX}};
    private static final long[] LONGS = {Long.MIN_VALUE, MIN, -1, 0, 255, 65536, 1L << 32, Long.MAX_VALUE};
    private static final Check CHECK = new Check();

    public static void main(String[] args) throws ReflectiveOperationException {
        for (Method method : GoreGlobe.class.getDeclaredMethods()) {
            if (Modifier.isPublic(method.getModifiers())) {
                Method due = Model.class.getDeclaredMethod(method.getName(), method.getParameterTypes());
                for (int kind = 0; kind < 3; kind++) {
                    allMixtures(method, due, kind);
                }
            }
        }
        CHECK.end();
    }

    private static void allMixtures(Method method, Method due, int kind) throws ReflectiveOperationException {
        int taken = method.getParameterCount();
        int[] numbers = NUMBERS[taken];
        long mixtures = 1;
        for (int i = 0; i < taken; i++) {
            mixtures *= size(method, i, numbers);
        }
        GoreGlobe globe = null;
        Model model = null;
        for (long mixture = 0; mixture < mixtures; mixture++) {
            if (mixture % CALLS == 0) {
                globe = new GoreGlobe();
                model = new Model();
                prepare(globe, model, kind);
            }
            Object[] told = new Object[taken];
            long rest = mixture;
            for (int i = 0; i < taken; i++) {
                int size = size(method, i, numbers);
                int at = (int) (rest % size);
                rest /= size;
                if (isLong(method, i)) {
                    told[i] = LONGS[at];
                } else {
                    told[i] = numbers[at];
                }
            }
            compare(method, due, globe, model, told);
        }
    }

    private static boolean isLong(Method method, int i) {
        return method.getParameterTypes()[i] == long.class;
    }

    private static int size(Method method, int i, int[] numbers) {
        return isLong(method, i) ? LONGS.length : numbers.length;
    }

    private static void compare(Method method, Method due, GoreGlobe globe, Model model, Object[] told)
            throws ReflectiveOperationException {
        long want = ((Number) due.invoke(model, told)).longValue();
        try {
            long got = ((Number) method.invoke(globe, told)).longValue();
            // A name for each of a million calls would take longer than the calls.
            CHECK.due(got == want ? "" : method.getName() + Arrays.toString(told), got, want);
        } catch (InvocationTargetException e) {
            CHECK.holds(method.getName() + Arrays.toString(told) + " throws " + e.getCause(), false);
        }
    }

    /** Some 170 calls at most. */
    private static void prepare(GoreGlobe globe, Model model, int kind) {
        if (kind == 0) {
            return;
        }
        String text = kind == 1 ? "0:0-2,4-23;5:0-22;6:0" : Check.ALL;
        for (int round = 0; round < 2; round++) {
            for (int i = 0; i < text.length(); i++) {
                globe.type(text.charAt(i));
                model.type(text.charAt(i));
            }
            if (round == 0) {
                globe.read();
                model.read();
            }
            text = round == 0 && kind == 2 ? "1:2" : text;
        }
        globe.tell(0, 61);
        model.tell(0, 61);
        globe.tell(2, kind == 1 ? 0 : 3);
        model.tell(2, kind == 1 ? 0 : 3);
        int[] stops = kind == 1 ? new int[] {0, 265, 0} : new int[] {1, 1, 2, 3, 4, 5, 265, 0};
        for (int stop : stops) {
            globe.add(stop);
            model.add(stop);
        }
        for (int sheet = 0; sheet < 3; sheet++) {
            globe.sheet(sheet, sheet == 1 ? 3 : 2, kind == 1 ? 30 : 24 * sheet);
            model.sheet(sheet, sheet == 1 ? 3 : 2, kind == 1 ? 30 : 24 * sheet);
        }
        if (kind == 2) {
            globe.image();
            model.image();
        }
    }
}
