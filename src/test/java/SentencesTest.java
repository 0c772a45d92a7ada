import java.lang.reflect.Method;
import java.util.Map;
import java.util.TreeMap;

/**
 * Runs the tests that hold one sentence of the document each. A test's name begins with its term or promise (t1, p03; t0 is
 * what stands before and behind them), its first line says the sentence; a sentence that no test says is a wrong answer too,
 * but for the face, which is RulesTest's.
 */
public final class SentencesTest {
    static final Checks c = new Checks();
    private static Document document;

    public static void main(String[] args) throws Exception {
        document = new Document();
        runAll(FrameSentences.class);
        runAll(TermSentences.class);
        runAll(PlateSentences.class);
        runAll(PushingSentences.class);
        runAll(RefusalSentences.class);
        c.part("the document");
        none("What it is");
        none("Terms");
        for (int promise = 1; promise <= 27; promise++) {
            none("Promise " + promise);
        }
        none("Not promised");
        c.end();
    }

    /** To be called first in each test. */
    static void holds(String section, String sentence) {
        c.part(section + ", \"" + sentence + "\"");
        c.due("the document says so", document.hold(section, sentence), true);
    }

    /** Words that ask for nothing, so that no test is due for them. */
    static void free(String section, String words) {
        c.due("the document leaves it free: " + words, document.hold(section, words), true);
    }

    private static void none(String section) {
        String left = document.left(section);
        c.due("no test for, in " + section + ": " + left, left.isEmpty(), true);
    }

    private static void runAll(Class<?> tests) throws Exception {
        Map<String, Method> byName = new TreeMap<>();
        for (Method method : tests.getDeclaredMethods()) {
            if (method.getName().matches("(t\\d|p\\d\\d).*")) {
                byName.put(method.getName(), method);
            }
        }
        for (Method method : byName.values()) {
            c.part(method.getName());
            method.invoke(null);
            c.due(method.getName() + " says no sentence", c.part().equals(method.getName()), false);
        }
    }
}
