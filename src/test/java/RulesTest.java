import java.lang.management.ManagementFactory;
import java.lang.reflect.Constructor;
import java.lang.reflect.Field;
import java.lang.reflect.Member;
import java.lang.reflect.Method;
import java.lang.reflect.Modifier;
import java.nio.file.Files;
import java.nio.file.Path;
import java.util.Random;
import java.util.Set;
import java.util.StringJoiner;
import java.util.TreeSet;
import java.util.regex.Matcher;
import java.util.regex.Pattern;

/** The face, the words that LANGUAGE.md rules out, any arguments in any state, and the room that a run takes. */
public final class RulesTest {
    private static final String FORBIDDEN = "\\b(throw|throws|try|catch|finally|synchronized|assert|record|Random|Thread|System\\.(?!arraycopy)"
        + "|protected|\\w+Exact|static\\s*\\{|new\\s+\\w+\\s*\\([^)]*\\)\\s*\\{)|->|::";
    /** Of rule 4's library what the class needs; all else of a name with a capital must be its own. */
    private static final Set<String> LIBRARY = Set.of("Arrays.fill(", "System.arraycopy(", "Math.abs(", "Math.max(", "Math.min(", "Math.floorMod(");
    private static final Checks c = new Checks();

    public static void main(String[] args) throws Exception {
        face();
        nested();
        source();
        for (int seed = 0; seed < 200; seed++) {
            anyArguments(seed);
        }
        room();
        c.end();
    }

    private static boolean isPrivate(Member member) {
        return Modifier.isPrivate(member.getModifiers()) || member.isSynthetic();
    }

    /** As the document writes a method or constructor, but without the parameters' names. */
    private static String written(String answer, String name, Class<?>[] parameters) {
        StringJoiner types = new StringJoiner(", ", "(", ")");
        for (Class<?> parameter : parameters) {
            types.add(parameter.getName());
        }
        return answer + name + types;
    }

    private static void face() throws Exception {
        c.part("face");
        c.due("public and final", LampPlate.class.getModifiers(), Modifier.PUBLIC | Modifier.FINAL);
        Set<String> wanted = new TreeSet<>();
        for (String member : Document.face()) {
            wanted.add(member.replaceAll("(int|long) \\w+(?=[,)])", "$1"));
        }
        Set<String> found = new TreeSet<>();
        for (Method method : LampPlate.class.getDeclaredMethods()) {
            if (!isPrivate(method)) {
                found.add(written(method.getReturnType().getName() + " ", method.getName(), method.getParameterTypes()));
                c.due(method + " is public and no more", method.getModifiers(), Modifier.PUBLIC);
            }
        }
        for (Constructor<?> made : LampPlate.class.getDeclaredConstructors()) {
            found.add(written("", made.getName(), made.getParameterTypes()));
            c.due(made + " is public", made.getModifiers(), Modifier.PUBLIC);
        }
        for (Field field : LampPlate.class.getDeclaredFields()) {
            if (!isPrivate(field)) {
                found.add("static final int " + field.getName() + " = " + field.getInt(null));
                c.due(field + " is a constant", field.getModifiers(), Modifier.PUBLIC | Modifier.STATIC | Modifier.FINAL);
            }
            c.due(field + ", if static, is final", !Modifier.isStatic(field.getModifiers()) || Modifier.isFinal(field.getModifiers()), true);
        }
        c.due("2 constants, a constructor and 26 methods", wanted.size(), 29);
        c.due("the document's " + wanted + " are the class's " + found, found.equals(wanted), true);
    }

    private static void nested() throws Exception {
        c.part("classes inside");
        Set<String> names = new TreeSet<>();
        for (String member : Document.face()) {
            names.add(member.replaceAll("\\(.*", "").replaceAll(".* ", ""));
        }
        for (Method method : LampPlate.class.getDeclaredMethods()) {
            c.due(method + " is private and bears a name of the face", isPrivate(method) && names.contains(method.getName()), false);
        }
        c.due("at most twelve", LampPlate.class.getDeclaredClasses().length <= 12, true);
        for (Class<?> inside : LampPlate.class.getDeclaredClasses()) {
            c.due(inside + " is static", Modifier.isStatic(inside.getModifiers()), true);
            int fields = 0;
            for (Field field : inside.getDeclaredFields()) {
                boolean constant = Modifier.isStatic(field.getModifiers());
                fields += constant ? 0 : 1;
                c.due(field + ", if static, is final", !constant || Modifier.isFinal(field.getModifiers()), true);
            }
            c.due(inside + " has at most twenty fields", fields <= 20, true);
            for (Method method : inside.getDeclaredMethods()) {
                c.due(method + " bears a name of the face", names.contains(method.getName()), false);
                c.due(method + " takes at most seven", method.getParameterCount() <= 7, true);
            }
        }
    }

    private static void source() throws Exception {
        c.part("source");
        String text = Files.readString(Path.of("src/main/java/LampPlate.java"));
        String code = text.replaceAll("(?s)/\\*.*?\\*/", "").replaceAll("//[^\n]*", "");
        Matcher matcher = Pattern.compile(FORBIDDEN).matcher(code);
        c.due("ruled out: " + (matcher.find() ? matcher.group() : ""), matcher.reset().find(), false);
        Matcher imports = Pattern.compile("(?m)^import (.*);$").matcher(code);
        while (imports.find()) {
            c.due("import " + imports.group(1), imports.group(1).equals("java.util.Arrays"), true);
        }
        Matcher uses = Pattern.compile("\\b[A-Z]\\w*[a-z]\\w*\\.\\w+\\(?").matcher(code);
        while (uses.find()) {
            boolean own = uses.group().matches("(Board|History|Told|Form)\\.[A-Z_]+");
            c.due(uses.group() + " is the class's own or in the library", own || LIBRARY.contains(uses.group()), true);
        }
        int lines = 0;
        for (String line : code.split("\n")) {
            lines = line.matches("( {4}| {8})\\S.*\\) \\{") ? 0 : lines + 1;
            c.due("a method of more than sixty lines, at " + line, line.matches("( {4}| {8})\\}") && lines > 60, false);
        }
    }

    private static int any(Random random) {
        switch (random.nextInt(8)) {
            case 0:
                return random.nextInt();
            case 1:
                return random.nextBoolean() ? Integer.MIN_VALUE : Integer.MAX_VALUE;
            case 2:
                return 95 + random.nextInt(12);
            case 3:
                return random.nextInt(40) - 3;
            default:
                return random.nextInt(8);
        }
    }

    /** Largest plates and odd arguments; nothing may be thrown, and no answer be below what the document has. */
    private static void anyArguments(int seed) {
        c.part("any arguments, seed " + seed);
        Random random = new Random(seed);
        LampPlate x = new LampPlate();
        long lowest = 0;
        for (int call = 0; call < 512; call++) {
            if (random.nextInt(50) == 0) {
                x.plate(1 + random.nextInt(36), 2 + random.nextInt(11), 1 + random.nextInt(6));
            }
            lowest = Math.min(lowest, anyCall(x, random.nextInt(38), random));
        }
        c.due("the lowest answer", lowest, Math.max(-2, lowest));
    }

    private static long anyCall(LampPlate x, int which, Random random) {
        int a = any(random);
        int b = any(random);
        switch (which) {
            case 0: return x.plate(a, b, any(random)) ? 1 : 0;
            case 1: return x.board(a, b) ? 1 : 0;
            case 2: return x.entry(a, random.nextLong()) ? 1 : 0;
            case 3: return x.wire(a);
            case 4: return x.cost(a, b);
            case 5: return x.light(a, b);
            case 6: return x.push(a, b);
            case 7: return x.chase();
            case 8: return x.undo();
            case 9: return x.keep() ? 1 : 0;
            case 10: return x.back() ? 1 : 0;
            case 11: return x.count(a);
            case 12: return x.shown(a);
            case 13: return x.step(a, b);
            case 14: return x.can();
            case 15: return x.next();
            case 16: return x.row(a);
            case 17: return x.primes(a, b);
            case 18: return x.base(a);
            case 19: return x.element(a, b);
            case 20: return x.least();
            case 21: return x.worst();
            case 22: return x.apply();
            case 23: return x.tell(a);
            case 24: return x.check(a);
            default: return x.button(a, b, any(random), any(random));
        }
    }

    private static long bytesMade() {
        return ((com.sun.management.ThreadMXBean) ManagementFactory.getThreadMXBean()).getCurrentThreadAllocatedBytes();
    }

    /** An int is 4 bytes, so 7.3 million of them are 29.2 million; a run has some 512 calls. */
    private static void room() {
        c.part("room");
        bytesMade();
        long start = bytesMade();
        for (int call = 0; call < 512; call += 2) {
            LampPlate x = new LampPlate();
            x.light(0, 1);
            x.can();
        }
        c.due("a new object for every other call", bytesMade() - start < 4 * 7_300_000L, true);
        start = bytesMade();
        LampPlate x = new LampPlate();
        x.plate(36, 12, 6);
        for (int call = 0; call < 500; call++) {
            x.button(4, call % 36, call % 12, 0);
            x.button(1, call % 36, call % 12, 0);
            x.light(call % 36, 1);
            x.can();
            x.next();
            x.least();
            x.element(1, 0);
            x.worst();
            x.keep();
            x.back();
            x.apply();
        }
        c.due("one object for all calls makes its rows once", bytesMade() - start < 4 * 40_000L, true);
    }
}
