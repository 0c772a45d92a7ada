import java.lang.reflect.Method;
import java.nio.file.Files;
import java.nio.file.Path;
import java.util.Set;
import java.util.TreeSet;
import java.util.regex.Matcher;
import java.util.regex.Pattern;

/** README.md's example: each call, on one object, answers what stands behind it there; and the README names every call. */
public final class ReadmeTest {
    private static final Pattern CALL = Pattern.compile("x\\.(\\w+)\\(([^)]*)\\);\\s*// (\\S+) .*");
    private static final Checks c = new Checks();

    public static void main(String[] args) throws Exception {
        String text = Files.readString(Path.of("README.md"));
        int from = text.indexOf("```java\n") + 8;
        c.part("README.md");
        c.due("has an example", from > 8, true);
        LampPlate x = new LampPlate();
        int calls = 0;
        for (String line : text.substring(from, text.indexOf("```", from)).split("\n")) {
            if (line.startsWith("x.")) {
                calls++;
                answer(x, line);
            }
        }
        c.due("its example has calls", calls > 0, true);
        namesAll(text);
        c.end();
    }

    private static void answer(LampPlate x, String line) throws Exception {
        Matcher call = CALL.matcher(line);
        c.due("a call with its answer: " + line, call.matches(), true);
        if (call.matches()) {
            Object got = named(call.group(1)).invoke(x, numbers(named(call.group(1)), call.group(2)));
            c.due(line + " (" + got + ")", got.toString().equals(call.group(3)), true);
        }
    }

    private static Method named(String name) throws Exception {
        for (Method method : LampPlate.class.getMethods()) {
            if (method.getDeclaringClass() == LampPlate.class && method.getName().equals(name)) {
                return method;
            }
        }
        throw new NoSuchMethodException(name);
    }

    private static Object[] numbers(Method method, String text) {
        Object[] all = new Object[method.getParameterCount()];
        String[] parts = text.split(", ");
        for (int i = 0; i < all.length; i++) {
            long v = Long.parseLong(parts[i]);
            all[i] = method.getParameterTypes()[i] == long.class ? (Object) v : (Object) (int) v;
        }
        return all;
    }

    private static void namesAll(String text) {
        Set<String> names = new TreeSet<>();
        for (Method method : LampPlate.class.getDeclaredMethods()) {
            if (java.lang.reflect.Modifier.isPublic(method.getModifiers())) {
                names.add(method.getName());
            }
        }
        for (String name : names) {
            c.due("`" + name + "` is named", text.contains("`" + name + "`"), true);
        }
    }
}
