import java.lang.reflect.Method;
import java.nio.file.Files;
import java.nio.file.Path;
import java.util.Set;
import java.util.TreeSet;
import java.util.regex.Matcher;
import java.util.regex.Pattern;

/** The README's example answers what stands behind each of its calls, and the README names every call. */
public final class ReadmeTest {
    private static int wrong = 0;

    private static void due(String what, Object got, Object want) {
        if (!got.equals(want)) {
            wrong++;
            System.out.println(what + " is " + got + ", due is " + want);
        }
    }

    public static void main(String[] args) throws Exception {
        String readme = Files.readString(Path.of("README.md"));
        example(readme);
        everyCallIsNamed(readme);
        System.exit(wrong == 0 ? 0 : 1);
    }

    private static void example(String readme) throws Exception {
        BuriedHalves firm = new BuriedHalves();
        Matcher text = Pattern.compile("String text = \"([^\"]*)\"").matcher(readme);
        due("a text", text.find(), true);
        for (char letter : text.group(1).toCharArray()) {
            firm.feed(letter);
        }
        Matcher call = Pattern.compile("(?m)^firm\\.(\\w+)\\(([-0-9, ]*)\\);\\s*// (-?\\d+)").matcher(readme);
        int calls = 0;
        while (call.find()) {
            calls++;
            due(call.group().trim(), answer(firm, call.group(1), call.group(2)), Integer.valueOf(call.group(3)));
        }
        Matcher line = Pattern.compile("(?m)^firm\\.").matcher(readme);
        due("calls with an answer", (long) calls, line.results().count());
    }

    private static Object answer(BuriedHalves firm, String name, String list) throws Exception {
        String[] parts = list.isEmpty() ? new String[0] : list.split(", ");
        Class<?>[] types = new Class<?>[parts.length];
        Object[] arguments = new Object[parts.length];
        for (int i = 0; i < parts.length; i++) {
            types[i] = int.class;
            arguments[i] = Integer.valueOf(parts[i]);
        }
        return BuriedHalves.class.getMethod(name, types).invoke(firm, arguments);
    }

    private static void everyCallIsNamed(String readme) {
        Set<String> named = new TreeSet<>();
        Matcher call = Pattern.compile("`(\\w+)\\(([a-z, ]*)\\)`").matcher(readme);
        while (call.find()) {
            named.add(call.group(1) + " " + (call.group(2).isEmpty() ? 0 : call.group(2).split(", ").length));
        }
        Set<String> open = new TreeSet<>();
        for (Method method : BuriedHalves.class.getDeclaredMethods()) {
            if ((method.getModifiers() & 1) != 0) {
                open.add(method.getName() + " " + method.getParameterCount());
            }
        }
        due("calls in the README", named, open);
    }
}
