import java.io.IOException;
import java.nio.file.Files;
import java.nio.file.Path;
import java.util.ArrayList;
import java.util.Arrays;
import java.util.LinkedHashMap;
import java.util.List;
import java.util.Map;

/** The document's sections, to see that each sentence is tested somewhere. */
final class Document {
    private static final Path FILE = Path.of("../shared/DOC.md");

    private Document() {
    }

    static boolean isThere() {
        return Files.isReadable(FILE);
    }

    /** Every quotation must stand in its section, and together they must leave no word of the sections out. */
    static void compareWith(List<String[]> quotations) throws IOException {
        Map<String, String> sections = sections(Files.readAllLines(FILE));
        Map<String, boolean[]> quoted = new LinkedHashMap<>();
        sections.forEach((name, text) -> quoted.put(name, new boolean[text.length()]));
        for (String[] quotation : quotations) {
            String text = sections.getOrDefault(quotation[0], "");
            String words = quotation[1].replaceAll("\\s+", " ");
            Check.due(quotation[0] + " has: " + words, text.contains(words), true);
            for (int at = text.indexOf(words); at >= 0; at = text.indexOf(words, at + 1)) {
                Arrays.fill(quoted.get(quotation[0]), at, at + words.length(), true);
            }
        }
        sections.forEach((name, text) -> Check.due("words of " + name + " without a test",
            wordsLeft(text, quoted.get(name)), List.of()));
    }

    private static List<String> wordsLeft(String text, boolean[] isQuoted) {
        StringBuilder left = new StringBuilder();
        for (int k = 0; k < text.length(); k++) {
            left.append(isQuoted[k] ? '\n' : text.charAt(k));
        }
        List<String> found = new ArrayList<>();
        for (String words : left.toString().split("\n")) {
            if (words.matches(".*[A-Za-z0-9].*")) {
                found.add(words.trim());
            }
        }
        return found;
    }

    /** "Terms 1" to "Terms 4" and "Promise 1" to "Promise 45", each in one line. */
    private static Map<String, String> sections(List<String> lines) {
        Map<String, String> sections = new LinkedHashMap<>();
        String name = "";
        for (String line : lines) {
            if (line.startsWith("## ")) {
                name = line.startsWith("## Promise ") ? line.substring(3).replaceAll(":.*", "") : "";
                name = line.equals("## Terms") ? "Terms" : name;
            } else if (name.startsWith("Terms") && line.matches("\\d\\. .*")) {
                name = "Terms " + line.charAt(0);
            } else if (!name.isEmpty() && !isLeftOut(line)) {
                sections.merge(name, line.replaceAll("^`[^`]*\\(.*?\\)[^`]*`: ", "").trim(), (a, b) -> (a + " " + b).trim());
            }
        }
        sections.remove("Terms");
        sections.replaceAll((key, text) -> text.replaceAll("\\s+", " "));
        return sections;
    }

    /** What is no sentence: the fence of the grammar, and what an argument is called. */
    private static boolean isLeftOut(String line) {
        return line.startsWith("```") || line.startsWith("- `");
    }
}
