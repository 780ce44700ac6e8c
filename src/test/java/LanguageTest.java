import java.io.IOException;
import java.lang.reflect.Field;
import java.lang.reflect.Method;
import java.lang.reflect.Modifier;
import java.nio.file.Files;
import java.nio.file.Path;
import java.util.ArrayList;
import java.util.HashSet;
import java.util.List;
import java.util.Set;
import java.util.regex.Matcher;
import java.util.regex.Pattern;

/** What can be looked at of LANGUAGE.md's rules in the class and its text. It runs in the project's folder. */
public final class LanguageTest {
    private static final Path CLASS = Path.of("src/main/java/RadixDesk.java");
    private static final Pattern FUNCTION = Pattern.compile("\\b(?:Integer|Long|Math)\\s*\\.\\s*(\\w+)");
    private static final Pattern OTHER = Pattern.compile(
        "\\b(?:Short|Byte|Character|Boolean|Double|Float|Objects|Collections|BigInteger|BigDecimal|Random|Thread"
            + "|Runtime|Instant|StrictMath)\\b|\\bjava\\s*\\.|\\bSystem\\s*\\.\\s*(?!arraycopy\\b)\\w+"
            + "|\\bString\\s*\\.\\s*\\w+|\\bArrays\\s*\\.\\s*(?!(?:copyOf|copyOfRange|fill)\\b)\\w+");
    /** The first line has what the rule names; the others count bits or place them anew, as bitCount() does. */
    private static final Set<String> ALLOWED = Set.of(
        "compare", "max", "min", "abs", "bitCount", "floorDiv", "floorMod", "signum",
        "numberOfLeadingZeros", "numberOfTrailingZeros", "highestOneBit", "lowestOneBit",
        "reverse", "reverseBytes", "rotateLeft", "rotateRight");
    /** What has no place in the class by the rules 2, 6 and 10; it catches nothing either. */
    private static final Pattern REFUSED = Pattern.compile("->|::|\\b(?:synchronized|assert|finally|try|catch|goto|var"
        + "|native|volatile|transient|record|sealed|yield|equals|hashCode|toString|getClass|Object)\\b"
        + "|\\bstatic\\s*\\{");
    private static final Pattern THROW = Pattern.compile("\\bthrow\\b(?!\\s+new\\s+(?:IllegalStateException"
        + "|IllegalArgumentException|IndexOutOfBoundsException|NoSuchElementException)\\(\"\"\\);)");
    private static final Set<String> TYPES = Set.of("int", "long", "boolean", "char", "double", "float", "void",
        "int[]", "long[]", "String");
    private static final int MOST_LINES = 60;
    private static final int MOST_PARAMETERS = 7;
    private static final int MOST_CLASSES = 12;
    private static final int MOST_FIELDS = 20;

    public static void main(String[] args) throws IOException {
        Check.due("a function that is on the list", refused("long a = Long.bitCount(b);"), List.of());
        for (String name : new String[] {"divideUnsigned", "remainderUnsigned", "compareUnsigned", "addExact"}) {
            Check.due(name, refused("int a = Long . " + name + "(b, c);"), List.of(name));
        }
        Check.due("a clock", refused("System.nanoTime()"), List.of("System.nanoTime"));
        Check.due("a comment", refused("// Long.parseLong\n/* Math.\n * sqrt Math.sqrt */ x"), List.of());
        Check.due("a text", refused("\"Math.sqrt\""), List.of());
        String program = Files.readString(CLASS);
        Check.due("what " + CLASS + " calls beyond the list", refused(program), List.of());
        Check.due("words that have no place", found(REFUSED, code(program)), List.of());
        Check.due("throws of another kind", found(THROW, code(program)), List.of());
        Check.due("signs beyond 127", program.chars().filter(sign -> sign > 127).count(), 0);
        Check.due("lines of the longest method are too many", longestMethod(program) > MOST_LINES, false);
        classes();
        Check.end();
    }

    /** The program without its comments, its texts and its one import. */
    private static String code(String program) {
        return program
            .replaceAll("\"(?:[^\"\\\\\\n]|\\\\.)*\"", "\"\"")
            .replaceAll("(?s)/\\*.*?\\*/|//[^\\n]*", " ")
            .replace("import java.util.NoSuchElementException;", " ");
    }

    private static List<String> found(Pattern pattern, String code) {
        List<String> found = new ArrayList<>();
        Matcher matcher = pattern.matcher(code);
        while (matcher.find()) {
            found.add(matcher.group());
        }
        return found;
    }

    /** What a program calls beyond the list, each as often as it does. */
    private static List<String> refused(String program) {
        String code = code(program);
        List<String> found = new ArrayList<>();
        Matcher function = FUNCTION.matcher(code);
        while (function.find()) {
            if (!ALLOWED.contains(function.group(1))) {
                found.add(function.group(1));
            }
        }
        found.addAll(found(OTHER, code));
        return found;
    }

    /** A method's head stands four or eight places in, and ends with a parenthesis or an exception, and a brace. */
    private static int longestMethod(String program) {
        int longest = 0;
        String[] lines = program.split("\n");
        for (int k = 0; k < lines.length; k++) {
            if (lines[k].matches("( {4}| {8})(?! |if|for|while|switch|else|do|}).*(\\)|Exception) \\{")) {
                String indent = lines[k].replaceAll("\\S.*", "");
                int end = k + 1;
                while (end < lines.length && !lines[end].equals(indent + "}")) {
                    end++;
                }
                longest = Math.max(longest, end - k + 1);
            }
        }
        Check.due("there are methods", longest > 1, true);
        return longest;
    }

    private static void classes() {
        Set<String> face = new HashSet<>();
        for (Method method : RadixDesk.class.getDeclaredMethods()) {
            if (Modifier.isPublic(method.getModifiers())) {
                face.add(method.getName());
            }
        }
        List<Class<?>> all = new ArrayList<>(List.of(RadixDesk.class));
        for (Class<?> inside : RadixDesk.class.getDeclaredClasses()) {
            all.add(inside);
            Check.due(inside + " shows", Modifier.isPublic(inside.getModifiers())
                || Modifier.isProtected(inside.getModifiers()) || !Modifier.isStatic(inside.getModifiers()), false);
            Check.due("classes inside " + inside, inside.getDeclaredClasses().length, 0);
        }
        Check.due(all.size() + " classes are too many", all.size() > MOST_CLASSES, false);
        for (Class<?> one : all) {
            fields(one);
            for (Method method : one.getDeclaredMethods()) {
                Check.due(method + " has too many parameters", method.getParameterCount() > MOST_PARAMETERS, false);
                Check.due("type of " + method, isType(method.getReturnType()), true);
                boolean bearsPublicName = Modifier.isPrivate(method.getModifiers()) && face.contains(method.getName());
                Check.due(method + " bears a name of the face", bearsPublicName, false);
                for (Class<?> parameter : method.getParameterTypes()) {
                    Check.due("parameter of " + method, isType(parameter) || one.isEnum(), true);
                }
            }
        }
    }

    private static void fields(Class<?> one) {
        int held = 0;
        for (Field field : one.getDeclaredFields()) {
            boolean isStatic = Modifier.isStatic(field.getModifiers());
            held += isStatic ? 0 : 1;
            Check.due(field + " is static, but not final",
                isStatic && !Modifier.isFinal(field.getModifiers()), false);
            Check.due("type of " + field, isType(field.getType()), true);
            boolean isConstant = field.getType().isPrimitive() || field.getType() == String.class || one.isEnum();
            Check.due(field + " is no constant", isStatic && !isConstant, false);
        }
        Check.due("the fields of " + one + " are too many", held > MOST_FIELDS, false);
    }

    /** Numbers, texts, the class's own classes, and arrays of one dimension. */
    private static boolean isType(Class<?> type) {
        Class<?> held = type.isArray() ? type.getComponentType() : type;
        return TYPES.contains(type.getSimpleName()) || held.getEnclosingClass() == RadixDesk.class;
    }
}
