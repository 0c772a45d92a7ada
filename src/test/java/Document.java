import java.io.IOException;
import java.nio.file.Files;
import java.nio.file.Path;
import java.util.ArrayList;
import java.util.LinkedHashMap;
import java.util.List;
import java.util.Map;

/** The sections of ../shared/DOC.md, and which of their words a test holds. */
final class Document {
    private static final Path PLACE = Path.of("../shared/DOC.md");
    private final Map<String, String> texts = new LinkedHashMap<>();
    private final Map<String, boolean[]> held = new LinkedHashMap<>();

    Document() throws IOException {
        for (String section : Files.readString(PLACE).split("(?m)^## ")) {
            int end = section.indexOf('\n');
            String name = section.substring(0, end).replaceAll(":.*", "").trim();
            texts.put(name, plain(section.substring(end)));
            held.put(name, new boolean[texts.get(name).length()]);
        }
    }

    /** Without code (the face is RulesTest's), the terms' numbers, and with single blanks. */
    private static String plain(String text) {
        return text.replaceAll("```text", "").replaceAll("`[^`\n]+`: ", "").replace("`", "")
            .replaceAll("(?m)^\\d\\. ", "").replaceAll("\\s+", " ").trim();
    }

    /** The lines of 'The public face' that end a constant, the constructor or a method, without what all of them have. */
    static List<String> face() throws IOException {
        String text = Files.readString(PLACE);
        String block = text.substring(text.indexOf("```java"), text.indexOf("## Terms"));
        List<String> members = new ArrayList<>();
        for (String line : block.split("\n")) {
            if (line.endsWith(";")) {
                members.add(line.trim().replace("public ", "").replace(";", ""));
            }
        }
        return members;
    }

    /** Answers whether the section says so. */
    boolean hold(String section, String sentence) {
        String text = texts.getOrDefault(section, "");
        int from = text.indexOf(sentence);
        for (int i = 0; from >= 0 && i < sentence.length(); i++) {
            held.get(section)[from + i] = true;
        }
        return from >= 0;
    }

    /** The first words of a section that no test holds, or an empty text. */
    String left(String section) {
        String text = texts.get(section);
        if (text == null) {
            return "the section itself";
        }
        for (int i = 0; i < text.length(); i++) {
            if (!held.get(section)[i] && Character.isLetterOrDigit(text.charAt(i))) {
                return text.substring(i, Math.min(text.length(), i + 60));
            }
        }
        return "";
    }
}
