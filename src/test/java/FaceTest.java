import java.io.IOException;
import java.lang.reflect.Field;
import java.lang.reflect.Method;
import java.lang.reflect.Modifier;
import java.nio.file.Files;
import java.nio.file.Path;
import java.util.ArrayList;
import java.util.Arrays;
import java.util.List;
import java.util.Set;
import java.util.TreeSet;
import java.util.regex.Pattern;
import java.util.stream.Collectors;

/** The public face, and the rules of LANGUAGE.md that the class's own members or its text show. */
final class FaceTest {
    private static final Check CHECK = new Check();
    private static final Path SOURCE = Path.of("src/main/java/GoreGlobe.java");
    private static final List<String> FACE = List.of(
        "int place(int,int,int)", "int flat(int,int,int)", "int back(int,int,int)", "int pair(int,int,int)",
        "int worst(int)", "int way(int,int,int)", "int sea(int,int)", "int stop(int)", "int route(int)",
        "int rolled(int,int)", "long lost(int,int)", "int count(int)", "int land(int,int)", "int tell(int,int)",
        "int add(int)", "int out(int)", "int reverse()", "int type(int)", "int read()", "int drift(int)", "int undo()",
        "int seed(int)", "int image()", "int restore()", "int seen(int,int,int,int)", "int film(int,int,int,int)",
        "int sheet(int,int,int)", "int drop(int)", "int item(int,int,int,long)", "int copy(int,int,int,int,int)");

    public static void main(String[] args) throws IOException {
        face();
        constants();
        classes();
        text(Files.readString(SOURCE));
        CHECK.end();
    }

    private static String signature(Method method) {
        String types = Arrays.stream(method.getParameterTypes()).map(Class::getName).collect(Collectors.joining(","));
        return method.getReturnType() + " " + method.getName() + "(" + types + ")";
    }

    private static void face() {
        Set<String> open = new TreeSet<>();
        for (Method method : GoreGlobe.class.getDeclaredMethods()) {
            if (!Modifier.isPrivate(method.getModifiers())) {
                open.add(signature(method));
                CHECK.holds(method + " is public and no static one", method.getModifiers() == Modifier.PUBLIC);
            }
        }
        CHECK.holds("the methods of the face: " + open, open.equals(new TreeSet<>(FACE)));
        CHECK.holds("one constructor", GoreGlobe.class.getDeclaredConstructors().length == 1);
        CHECK.holds("a public one", GoreGlobe.class.getConstructors().length == 1);
        CHECK.holds("final", Modifier.isFinal(GoreGlobe.class.getModifiers()));
        CHECK.holds("public", Modifier.isPublic(GoreGlobe.class.getModifiers()));
    }

    private static void constants() {
        Set<String> open = new TreeSet<>();
        for (Field field : GoreGlobe.class.getDeclaredFields()) {
            if (!Modifier.isPrivate(field.getModifiers())) {
                open.add(field.getName());
            }
        }
        CHECK.holds("the constants of the face: " + open,
            open.equals(Set.of("BAD", "NOT", "FULL", "NONE", "NULL", "CAST", "INDEX", "SIZE")));
        CHECK.due("BAD", GoreGlobe.BAD, -1);
        CHECK.due("NOT", GoreGlobe.NOT, -2);
        CHECK.due("FULL", GoreGlobe.FULL, -3);
        CHECK.due("NONE", GoreGlobe.NONE, -4);
        CHECK.due("NULL", GoreGlobe.NULL, -11);
        CHECK.due("CAST", GoreGlobe.CAST, -12);
        CHECK.due("INDEX", GoreGlobe.INDEX, -13);
        CHECK.due("SIZE", GoreGlobe.SIZE, -14);
    }

    private static void classes() {
        List<Class<?>> all = new ArrayList<>(List.of(GoreGlobe.class.getDeclaredClasses()));
        for (Class<?> inside : all) {
            CHECK.holds(inside + " is static", Modifier.isStatic(inside.getModifiers()));
            CHECK.holds(inside + " isn't public", !Modifier.isPublic(inside.getModifiers()));
        }
        all.add(GoreGlobe.class);
        CHECK.holds("12 classes at most", all.size() <= 12);
        Set<String> names = FACE.stream().map(s -> s.substring(s.indexOf(' ') + 1, s.indexOf('(')))
            .collect(Collectors.toSet());
        for (Class<?> one : all) {
            int fields = 0;
            for (Field field : one.getDeclaredFields()) {
                CHECK.holds(field + " is no state that objects share",
                    !Modifier.isStatic(field.getModifiers()) || Modifier.isFinal(field.getModifiers()));
                fields += Modifier.isStatic(field.getModifiers()) ? 0 : 1;
            }
            CHECK.holds(one + " has 20 fields at most", fields <= 20);
            for (Method method : one.getDeclaredMethods()) {
                CHECK.holds(method + " takes 7 at most", method.getParameterCount() <= 7);
                CHECK.holds(method + " bears its own name",
                    Modifier.isPublic(method.getModifiers()) || !names.contains(method.getName()));
            }
        }
    }

    private static void text(String source) {
        String code = source.replaceAll("(?s)/\\*.*?\\*/", "").replaceAll("//[^\n]*", "");
        for (String word : new String[] {"throw", "throws", "try", "catch", "synchronized", "assert", "static \\{", "->",
            "::", "\\w+Exact", "MAX_VALUE", "MIN_VALUE", "hashCode", "toString", "double", "float", "package", "Object"}) {
            boolean isThere = Pattern.compile("(?<!\\w)" + word + "(?!\\w)").matcher(code).find();
            CHECK.holds("no '" + word + "' in the class", !isThere);
        }
        CHECK.holds("one import", code.split("(?m)^import ").length == 2);
        CHECK.holds("signs 10 to 126 alone", source.chars().allMatch(c -> c == 10 || c >= 32 && c <= 126));
        int begin = 0;
        String[] lines = source.split("\n");
        for (int i = 0; i < lines.length; i++) {
            if (lines[i].matches(" {4}(?: {4})?(?!private static final class)\\w.*\\) \\{")) {
                begin = i;
            } else if (lines[i].matches(" {4}(?: {4})?\\}")) {
                CHECK.holds("line " + (begin + 1) + ": a method of 60 lines at most", i - begin < 60);
                begin = i;
            }
        }
    }
}
