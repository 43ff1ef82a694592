import java.io.IOException;
import java.lang.reflect.Constructor;
import java.lang.reflect.Field;
import java.lang.reflect.Method;
import java.lang.reflect.Modifier;
import java.nio.file.Files;
import java.nio.file.Path;
import java.util.Set;
import java.util.TreeSet;
import java.util.regex.Matcher;
import java.util.regex.Pattern;

/** The class has the document's face and no other, and keeps to the rules that a search can look for. */
public final class FaceTest {
    private static final String[] METHODS = {
        "row 3", "set 3", "copy 5", "drop 1", "feed 1", "mine 0", "fault 0", "years 1", "bury 3", "tell 3", "undo 0",
        "thing 2", "knows 1", "ahead 2", "up 1", "comesUp 1", "first 1", "trouble 1", "lay 2", "dig 2", "whom 1",
        "halves 1", "fits 5", "moles 3", "image 1", "restore 1", "kind 1", "as 2", "ask 2", "trace 1", "count 1",
        "status 0"};
    private static final String[] FORBIDDEN = {
        "\\bthrow\\b", "\\bthrows\\b", "\\btry\\b", "\\bcatch\\b", "\\bsynchronized\\b", "\\bassert\\b", "\\bimport\\b",
        "\\bpackage\\b", "->", "::", "\\bequals\\b", "\\bhashCode\\b", "\\btoString\\b", "Exact\\b", "\\bprotected\\b",
        "Random", "nanoTime", "currentTimeMillis", "\\bThread\\b", "\\bfloat\\b", "\\bdouble\\b"};
    private static int wrong = 0;

    private static void due(String what, Object got, Object want) {
        if (!got.equals(want)) {
            wrong++;
            System.out.println(what + " is " + got + ", due is " + want);
        }
    }

    public static void main(String[] args) throws IOException {
        constants();
        face();
        inside();
        source();
        System.exit(wrong == 0 ? 0 : 1);
    }

    private static void constants() {
        due("NONE", BuriedHalves.NONE, -1000000);
        due("BAD", BuriedHalves.BAD, -1000001);
        due("STATE", BuriedHalves.STATE, -1000002);
        due("FULL", BuriedHalves.FULL, -1000003);
    }

    private static void face() {
        Class<?> type = BuriedHalves.class;
        due("final", Modifier.isFinal(type.getModifiers()), true);
        Set<String> open = new TreeSet<>();
        for (Method method : type.getDeclaredMethods()) {
            if (!Modifier.isPrivate(method.getModifiers())) {
                open.add(method.getName() + " " + method.getParameterCount());
                due("public " + method.getName(), Modifier.isPublic(method.getModifiers()), true);
                due("answer of " + method.getName(), method.getReturnType(), int.class);
                for (Class<?> parameter : method.getParameterTypes()) {
                    due("parameter of " + method.getName(), parameter, int.class);
                }
            }
        }
        due("methods", open, new TreeSet<>(Set.of(METHODS)));
        Set<String> fields = new TreeSet<>();
        for (Field field : type.getDeclaredFields()) {
            if (!Modifier.isPrivate(field.getModifiers())) {
                fields.add(field.getName());
            }
        }
        due("fields", fields, new TreeSet<>(Set.of("NONE", "BAD", "STATE", "FULL")));
        Constructor<?>[] constructors = type.getDeclaredConstructors();
        due("constructors", constructors.length, 1);
        due("its parameters", constructors[0].getParameterCount(), 0);
    }

    private static void inside() {
        Set<String> names = new TreeSet<>();
        for (String method : METHODS) {
            names.add(method.substring(0, method.indexOf(' ')));
        }
        Class<?>[] classes = BuriedHalves.class.getDeclaredClasses();
        due("twelve classes at most", classes.length <= 11, true);
        for (Class<?> type : classes) {
            due("static " + type.getName(), Modifier.isStatic(type.getModifiers()), true);
            due("public " + type.getName(), Modifier.isPublic(type.getModifiers()), false);
            for (Method method : type.getDeclaredMethods()) {
                due("own name of " + method, names.contains(method.getName()), false);
                due("few parameters of " + method, method.getParameterCount() <= 7, true);
            }
        }
        for (Method method : BuriedHalves.class.getDeclaredMethods()) {
            if (Modifier.isPrivate(method.getModifiers())) {
                due("own name of " + method, names.contains(method.getName()), false);
            }
        }
    }

    private static void source() throws IOException {
        String text = Files.readString(Path.of("src/main/java/BuriedHalves.java"));
        String code = text.replaceAll("(?s)/\\*.*?\\*/", "").replaceAll("//[^\n]*", "");
        for (String word : FORBIDDEN) {
            Matcher found = Pattern.compile(word).matcher(code);
            due("'" + word + "' in the code", found.find(), false);
        }
        due("ASCII alone", text.chars().allMatch(c -> c < 128), true);
        Matcher statics = Pattern.compile("static (?!final)[a-zA-Z\\[\\]]+ \\w+( =|;)").matcher(code);
        due("static state", statics.find(), false);
    }
}
