import java.io.IOException;
import java.nio.file.Files;
import java.nio.file.Path;
import java.util.ArrayList;
import java.util.List;
import java.util.Set;
import java.util.regex.Matcher;
import java.util.regex.Pattern;

/** Rules 4 and 13 of LANGUAGE.md: the class calls no function of the library but these. It runs in the project's folder. */
public final class LanguageTest {
    private static final Path CLASS = Path.of("src/main/java/RadixDesk.java");
    private static final Pattern FUNCTION = Pattern.compile("\\b(?:Integer|Long|Math)\\s*\\.\\s*(\\w+)");
    private static final Pattern OTHER = Pattern.compile(
        "\\b(?:Short|Byte|Character|Boolean|Double|Float|Objects|Collections|BigInteger|BigDecimal|Random|Thread"
            + "|Runtime|Instant|StrictMath)\\b|\\bjava\\s*\\.|\\bSystem\\s*\\.\\s*(?!arraycopy\\b)\\w+"
            + "|\\bString\\s*\\.\\s*\\w+|\\bArrays\\s*\\.\\s*(?!(?:copyOf|copyOfRange|fill)\\b)\\w+");
    /** The first line has what the rule names; the others count bits or place them anew, as bitCount() does. */
    private static final Set<String> ALLOWED = Set.of(
        "compare", "max", "min", "abs", "bitCount", "floorDiv", "floorMod", "signum",
        "numberOfLeadingZeros", "numberOfTrailingZeros", "highestOneBit", "lowestOneBit",
        "reverse", "reverseBytes", "rotateLeft", "rotateRight");

    public static void main(String[] args) throws IOException {
        Check.due("a function that is on the list", refused("long a = Long.bitCount(b);"), List.of());
        for (String name : new String[] {"divideUnsigned", "remainderUnsigned", "compareUnsigned", "addExact"}) {
            Check.due(name, refused("int a = Long . " + name + "(b, c);"), List.of(name));
        }
        Check.due("a clock", refused("System.nanoTime()"), List.of("System.nanoTime"));
        Check.due("a comment", refused("// Long.parseLong\n/* Math.\n * sqrt Math.sqrt */ x"), List.of());
        Check.due("a text", refused("\"Math.sqrt\""), List.of());
        Check.due("what " + CLASS + " calls beyond the list", refused(Files.readString(CLASS)), List.of());
        Check.end();
    }

    /** What a program calls beyond the list, each as often as it does. */
    private static List<String> refused(String program) {
        String code = program
            .replaceAll("\"(?:[^\"\\\\\\n]|\\\\.)*\"", "\"\"")
            .replaceAll("(?s)/\\*.*?\\*/|//[^\\n]*", " ")
            .replace("import java.util.NoSuchElementException;", " ");
        List<String> found = new ArrayList<>();
        Matcher function = FUNCTION.matcher(code);
        while (function.find()) {
            if (!ALLOWED.contains(function.group(1))) {
                found.add(function.group(1));
            }
        }
        Matcher other = OTHER.matcher(code);
        while (other.find()) {
            found.add(other.group());
        }
        return found;
    }
}
