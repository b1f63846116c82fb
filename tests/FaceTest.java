import java.io.IOException;
import java.lang.reflect.Constructor;
import java.lang.reflect.Field;
import java.lang.reflect.Method;
import java.lang.reflect.Modifier;
import java.nio.file.Files;
import java.nio.file.Path;
import java.util.ArrayList;
import java.util.Arrays;
import java.util.List;
import java.util.TreeSet;
import java.util.regex.Matcher;
import java.util.regex.Pattern;

/** The public face is the document's and no more; the source keeps to what LANGUAGE.md says of words. */
public final class FaceTest {
    private static final String[] FACE = {
        "int type(long, int)", "int clear()", "int land()", "int town(int, int)", "int road(int, int)", "int stop(int, int)",
        "int far(int, int)", "int where(int, int)", "int off(int, int)", "int clock(int, int)", "int light(int, int)",
        "int pace(int, int)", "int early(int, int, int)", "int meets(int, int, int, int, int, int)",
        "int midnights(int, int, int)", "int gains(int, int, int, int)", "int best(int, int)", "int saw(int, int, int)",
        "int forget()", "int so()", "int stood(int, int)", "int two()", "int go(int)", "int ill(int, int)",
        "int rate(int, int)", "int keep(int)", "int back(int)", "int count(int)", "long trace()"};
    private static final String[] CONSTANTS = {"BAD -1", "STATE -2", "FULL -3", "NONE -9", "NO -1000000"};
    private static final String FORBIDDEN =
        "\\b(throw|throws|try|catch|synchronized|assert|import|package|float|double|native|volatile|System|Thread|Object|lambda)\\b|->|::";

    private static void same(String what, List<String> got, String[] want) {
        TreeSet<String> more = new TreeSet<>(got);
        TreeSet<String> less = new TreeSet<>(Arrays.asList(want));
        more.removeAll(Arrays.asList(want));
        less.removeAll(got);
        Due.is(what + ", too many: " + more, more.size(), 0);
        Due.is(what + ", missing: " + less, less.size(), 0);
    }

    private static String shape(Method method) {
        List<String> types = new ArrayList<>();
        for (Class<?> type : method.getParameterTypes()) types.add(type.getName());
        return method.getReturnType().getName() + " " + method.getName() + "(" + String.join(", ", types) + ")";
    }

    private static void face() throws ReflectiveOperationException {
        Due.is("the class is public and final", NoonWalker.class.getModifiers(), Modifier.PUBLIC | Modifier.FINAL);
        List<String> methods = new ArrayList<>();
        for (Method method : NoonWalker.class.getDeclaredMethods()) {
            if (!Modifier.isPrivate(method.getModifiers())) methods.add(shape(method));
        }
        same("methods", methods, FACE);
        List<String> constants = new ArrayList<>();
        for (Field field : NoonWalker.class.getDeclaredFields()) {
            boolean constant = Modifier.isStatic(field.getModifiers()) && Modifier.isFinal(field.getModifiers());
            if (Modifier.isStatic(field.getModifiers())) Due.is(field.getName() + " is final", constant ? 1 : 0, 1);
            if (!Modifier.isPrivate(field.getModifiers())) constants.add(field.getName() + " " + field.getInt(null));
        }
        same("constants", constants, CONSTANTS);
        Constructor<?>[] made = NoonWalker.class.getDeclaredConstructors();
        Due.is("one constructor", made.length, 1);
        Due.is("it has no parameters", made[0].getParameterCount(), 0);
        Due.is("it is public", made[0].getModifiers(), Modifier.PUBLIC);
    }

    private static void inside() {
        TreeSet<String> open = new TreeSet<>();
        for (Method method : NoonWalker.class.getMethods()) open.add(method.getName());
        Class<?>[] classes = NoonWalker.class.getDeclaredClasses();
        Due.is("classes inside, at most twelve", Math.max(12, classes.length), 12);
        for (Class<?> inner : classes) {
            Due.is(inner + " is static", inner.getModifiers() & Modifier.STATIC, Modifier.STATIC);
            for (Method method : inner.getDeclaredMethods()) {
                Due.is(inner + " has its own name " + method.getName(), open.contains(method.getName()) ? 1 : 0, 0);
                Due.is(method + " has few parameters", Math.max(7, method.getParameterCount()), 7);
            }
        }
    }

    private static String code(String source) {
        return source.replaceAll("(?s)/\\*.*?\\*/", " ").replaceAll("//[^\n]*", " ").replaceAll("\"[^\"]*\"", "\"\"");
    }

    private static void words() throws IOException {
        String source = Files.readString(Path.of("src/main/java/NoonWalker.java"));
        String code = code(source);
        Matcher word = Pattern.compile(FORBIDDEN).matcher(code);
        while (word.find()) Due.is("the word " + word.group(), 1, 0);
        Due.is("signs beyond 127", source.chars().filter(c -> c > 127).count(), 0);
    }

    /** All rows are made with the object: what is made stands behind a field's =, in a line of its own. */
    private static void noCallMakesAnObject() throws IOException {
        int fields = 0;
        for (String line : code(Files.readString(Path.of("src/main/java/NoonWalker.java"))).split("\n")) {
            if (!line.matches(".*(\\bnew\\b|\\bclone\\b|\\bcopyOf|\\{\\s*-?\\d).*")) continue;
            boolean field = line.matches(" +(private final|private|final) [A-Za-z]+(\\[\\])? [a-zA-Z0-9]+ = new [A-Za-z]+(\\(\\)|\\[[A-Z_ *]+\\]);");
            Due.is("a field's first value:" + line, field ? 1 : 0, 1);
            fields++;
        }
        Due.is("fields that hold something", Math.min(fields, 1), 1);
    }

    public static void main(String[] args) throws Exception {
        face();
        inside();
        words();
        noCallMakesAnObject();
        Due.finish("FaceTest");
    }
}
