import java.io.IOException;
import java.lang.reflect.Method;
import java.lang.reflect.Modifier;
import java.nio.file.Files;
import java.nio.file.Path;
import java.util.regex.Matcher;
import java.util.regex.Pattern;

/** What README.md says of the class: its example, call by call, and that it names all calls. */
final class ReadmeTest {
    private static final Pattern CALL = Pattern.compile("(?m)^globe\\.(\\w+)\\(([^;]*)\\); *// (-?\\d+): ");
    private static final Check CHECK = new Check();

    public static void main(String[] args) throws IOException, ReflectiveOperationException {
        String page = Files.readString(Path.of("README.md"));
        example(page);
        for (Method method : GoreGlobe.class.getDeclaredMethods()) {
            if (Modifier.isPublic(method.getModifiers())) {
                CHECK.holds(method.getName() + " is named", page.contains("`" + method.getName() + "`"));
            }
        }
        CHECK.end();
    }

    private static void example(String page) throws ReflectiveOperationException {
        GoreGlobe globe = new GoreGlobe();
        Matcher calls = CALL.matcher(page);
        int many = 0;
        while (calls.find()) {
            many++;
            String call = calls.group(1) + "(" + calls.group(2) + ")";
            CHECK.due(call, answer(globe, calls.group(1), calls.group(2)), Long.parseLong(calls.group(3)));
        }
        long lines = page.lines().filter(line -> line.startsWith("globe.")).count();
        CHECK.due("calls of the example", many, lines);
        CHECK.holds("there is an example", many > 0);
    }

    private static long answer(GoreGlobe globe, String name, String told) throws ReflectiveOperationException {
        String[] parts = told.isEmpty() ? new String[0] : told.split(", ");
        Class<?>[] types = new Class<?>[parts.length];
        Object[] values = new Object[parts.length];
        for (int i = 0; i < parts.length; i++) {
            types[i] = int.class;
            values[i] = parts[i].startsWith("'") ? (int) parts[i].charAt(1) : Integer.parseInt(parts[i]);
        }
        Object answer = GoreGlobe.class.getMethod(name, types).invoke(globe, values);
        return ((Number) answer).longValue();
    }
}
