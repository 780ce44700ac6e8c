import java.io.IOException;
import java.lang.reflect.Constructor;
import java.lang.reflect.Field;
import java.lang.reflect.Method;
import java.lang.reflect.Modifier;
import java.util.ArrayList;
import java.util.Collections;
import java.util.List;

/** The public face: every constant, constructor and method of the document, and no other member that shows. */
public final class FaceTest {
    private static final String[] FACE = {
        "boolean divide(int, int, int, boolean) IndexOutOfBoundsException",
        "boolean isMirror(int, int, boolean) IndexOutOfBoundsException",
        "boolean isWide()",
        "boolean read(int, int, int, int, boolean) IndexOutOfBoundsException",
        "boolean readPage(int, int, boolean) IndexOutOfBoundsException",
        "boolean setWide(boolean)",
        "double meanCount()",
        "float negativeShare()",
        "int clearText()",
        "int compare(int, int, boolean) IndexOutOfBoundsException",
        "int copyPage() IllegalStateException",
        "int count(int) IndexOutOfBoundsException",
        "int digitAt(int, int, int, boolean) IndexOutOfBoundsException NoSuchElementException",
        "int digitSum(int, int, boolean) IndexOutOfBoundsException",
        "int errorKind()",
        "int errorPlace()",
        "int errors()",
        "int example(int) IllegalArgumentException",
        "int leading(int) IndexOutOfBoundsException",
        "int leadingOnes(int) IndexOutOfBoundsException",
        "int longest(int, boolean)",
        "int pageAt(int) IndexOutOfBoundsException",
        "int pageLength()",
        "int run() IllegalStateException",
        "int sign(int) IndexOutOfBoundsException",
        "int sort(boolean)",
        "int textAt(int) IndexOutOfBoundsException",
        "int textLength()",
        "int trailing(int) IndexOutOfBoundsException",
        "int trailingOnes(int) IndexOutOfBoundsException",
        "int type(long) IllegalStateException",
        "int write(int, int, boolean) IndexOutOfBoundsException",
        "int writeBits(int, int) IndexOutOfBoundsException IllegalArgumentException",
        "int writeTen(int, boolean) IndexOutOfBoundsException",
        "long combine(int, int, int) IndexOutOfBoundsException IllegalArgumentException",
        "long fill(long, long)",
        "long highest(int) IndexOutOfBoundsException",
        "long lowest(int) IndexOutOfBoundsException",
        "long number(int) IndexOutOfBoundsException",
        "long reverse(int) IndexOutOfBoundsException",
        "long reverseBytes(int) IndexOutOfBoundsException",
        "long rotate(int, int, boolean) IndexOutOfBoundsException",
        "long set(int, long) IndexOutOfBoundsException",
        "long spread(int) IndexOutOfBoundsException",
    };

    private static final List<String> CONSTANTS = List.of("ADD = 0", "AND = 3", "BINARY = 2", "HEX = 0", "MULTIPLY = 2",
        "NONE = -1", "OCTAL = 1", "OR = 4", "SUBTRACT = 1", "XOR = 5");

    public static void main(String[] args) throws IllegalAccessException, IOException {
        Class<?> face = RadixDesk.class;
        Check.due("modifiers of the class", Modifier.toString(face.getModifiers()), "public final");
        List<String> methods = new ArrayList<>();
        List<String> names = new ArrayList<>();
        for (Method method : face.getDeclaredMethods()) {
            if (!Modifier.isPrivate(method.getModifiers()) && !method.isSynthetic()) {
                Check.due("modifiers of " + method, Modifier.toString(method.getModifiers()), "public");
                methods.add(told(method));
                names.add(method.getName());
            }
        }
        Collections.sort(methods);
        Check.due("the methods", methods, List.of(FACE));
        constants(face);
        Constructor<?>[] constructors = face.getDeclaredConstructors();
        Check.due("how many constructors", constructors.length, 1);
        Check.due("the constructor", constructors[0].toString(), "public RadixDesk()");
        for (Method method : face.getDeclaredMethods()) {
            boolean bearsPublicName = Modifier.isPrivate(method.getModifiers()) && names.contains(method.getName());
            Check.due("private " + method.getName() + " bears a public name", bearsPublicName, false);
        }
        if (Document.isThere()) {
            document();
        } else {
            System.out.println("the document is not there: its face was not compared");
        }
        Check.end();
    }

    private static String told(Method method) {
        StringBuilder all = new StringBuilder();
        all.append(method.getReturnType().getName()).append(' ').append(method.getName()).append('(');
        for (int k = 0; k < method.getParameterTypes().length; k++) {
            all.append(k == 0 ? "" : ", ").append(method.getParameterTypes()[k].getName());
        }
        all.append(')');
        for (Class<?> exception : method.getExceptionTypes()) {
            all.append(' ').append(exception.getSimpleName());
        }
        return all.toString();
    }

    private static void constants(Class<?> face) throws IllegalAccessException {
        List<String> constants = new ArrayList<>();
        for (Field field : face.getDeclaredFields()) {
            if (!Modifier.isPrivate(field.getModifiers()) && !field.isSynthetic()) {
                Check.due("modifiers of " + field, Modifier.toString(field.getModifiers()), "public static final");
                constants.add(field.getName() + " = " + field.getInt(null));
            }
        }
        Collections.sort(constants);
        Check.due("the constants", constants, CONSTANTS);
    }

    /** What is compared with the class above must be what the document says, as its face and at each promise. */
    private static void document() throws IOException {
        List<String> methods = new ArrayList<>();
        List<String> constants = new ArrayList<>();
        List<String> calls = new ArrayList<>();
        for (String line : Document.face()) {
            if (line.startsWith("static final int ")) {
                constants.addAll(List.of(line.replace("static final int ", "").split(", ")));
                continue;
            }
            calls.add(line);
            if (!line.equals("RadixDesk()")) {
                methods.add(told(line));
            }
        }
        Collections.sort(methods);
        Collections.sort(constants);
        Check.due("the document's methods", methods, List.of(FACE));
        Check.due("the document's constants", constants, CONSTANTS);
        Check.due("the document's promises", Document.signatures(), calls);
        Check.due("the constructor's promise", calls.indexOf("RadixDesk()"), 0);
    }

    /** A line of the document, told as a method of the class is. */
    private static String told(String line) {
        int open = line.indexOf('(');
        int close = line.indexOf(')');
        String parameters = line.substring(open + 1, close).replaceAll(" \\w+(?=,|$)", "");
        String exceptions = line.substring(close + 1).replace(" throws", "").replace(",", "");
        return line.substring(0, open) + "(" + parameters + ")" + exceptions;
    }
}
