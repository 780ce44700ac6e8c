import java.io.IOException;
import java.nio.file.Files;
import java.nio.file.Path;
import java.util.ArrayList;
import java.util.Arrays;
import java.util.LinkedHashMap;
import java.util.List;
import java.util.Map;
import java.util.regex.Matcher;
import java.util.regex.Pattern;

/** The document's sections, to see that each sentence is tested somewhere, and the face that it tells. */
final class Document {
    private static final Path FILE = Path.of("../shared/DOC.md");
    private static final Pattern SIGNATURE = Pattern.compile("^`([^`]*\\(.*?\\)[^`]*)`");

    private Document() {
    }

    static boolean isThere() {
        return Files.isReadable(FILE);
    }

    /** Every quotation must stand in its section, and together they must leave no word of the sections out. */
    static void compareWith(List<String[]> quotations) throws IOException {
        Map<String, String> sections = sections(Files.readAllLines(FILE));
        Map<String, boolean[]> quoted = new LinkedHashMap<>();
        sections.forEach((name, text) -> quoted.put(name, new boolean[text.length()]));
        for (String[] quotation : quotations) {
            String text = sections.getOrDefault(quotation[0], "");
            String words = quotation[1].replaceAll("\\s+", " ");
            Check.due(quotation[0] + " has: " + words, text.contains(words), true);
            for (int at = text.indexOf(words); at >= 0; at = text.indexOf(words, at + 1)) {
                Arrays.fill(quoted.get(quotation[0]), at, at + words.length(), true);
            }
        }
        sections.forEach((name, text) -> Check.due("words of " + name + " without a test",
            wordsLeft(text, quoted.get(name)), List.of()));
    }

    private static List<String> wordsLeft(String text, boolean[] isQuoted) {
        StringBuilder left = new StringBuilder();
        for (int k = 0; k < text.length(); k++) {
            left.append(isQuoted[k] ? '\n' : text.charAt(k));
        }
        List<String> found = new ArrayList<>();
        for (String words : left.toString().split("\n")) {
            if (words.matches(".*[A-Za-z0-9].*")) {
                found.add(words.trim());
            }
        }
        return found;
    }

    /** "What it is", "Terms 1" to "Terms 4" and "Promise 1" to "Promise 45", each in one line without its signature. */
    private static Map<String, String> sections(List<String> lines) {
        Map<String, String> sections = new LinkedHashMap<>();
        String name = "";
        for (String line : lines) {
            if (line.startsWith("## ")) {
                name = nameOf(line.substring(3));
            } else if (name.startsWith("Terms") && line.matches("\\d\\. .*")) {
                name = "Terms " + line.charAt(0);
            } else if (!name.isEmpty() && !line.startsWith("```")) {
                String words = line.replaceAll(SIGNATURE.pattern() + ": ", "").replaceAll("^- `", "`").trim();
                sections.merge(name, words, (a, b) -> (a + " " + b).trim());
            }
        }
        sections.remove("Terms");
        sections.replaceAll((key, text) -> text.replaceAll("\\s+", " "));
        return sections;
    }

    /** Empty for what has no sentence to be tested: the face, which FaceTest looks at, and what is not promised. */
    private static String nameOf(String heading) {
        boolean isTested = heading.equals("What it is") || heading.equals("Terms") || heading.startsWith("Promise ");
        return isTested ? heading.replaceAll(":.*", "") : "";
    }

    /** The lines of the face that tell a member, without what every one of them has. */
    static List<String> face() throws IOException {
        List<String> face = new ArrayList<>();
        boolean isFace = false;
        for (String line : Files.readAllLines(FILE)) {
            isFace = line.startsWith("## ") ? line.equals("## The public face") : isFace;
            if (isFace && line.startsWith("    public ")) {
                face.add(line.trim().replaceAll("^public |;$", ""));
            }
        }
        return face;
    }

    /** What stands at the head of each promise, in their order. */
    static List<String> signatures() throws IOException {
        List<String> signatures = new ArrayList<>();
        for (String line : Files.readAllLines(FILE)) {
            Matcher signature = SIGNATURE.matcher(line);
            if (signature.find()) {
                signatures.add(signature.group(1));
            }
        }
        return signatures;
    }
}
