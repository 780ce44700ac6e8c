import java.lang.reflect.Constructor;
import java.lang.reflect.Field;
import java.lang.reflect.Method;
import java.lang.reflect.Modifier;
import java.util.ArrayList;
import java.util.Collections;
import java.util.List;

/** The public face: every constant, constructor and method of the document, and no other member that shows. */
public final class FaceTest {
    private static final String[] FACE = {
        "boolean divide(int, int, int, boolean) IndexOutOfBoundsException",
        "boolean isMirror(int, int, boolean) IndexOutOfBoundsException",
        "boolean isWide()",
        "boolean read(int, int, int, int, boolean) IndexOutOfBoundsException",
        "boolean readPage(int, int, boolean) IndexOutOfBoundsException",
        "boolean setWide(boolean)",
        "double meanCount()",
        "float negativeShare()",
        "int clearText()",
        "int compare(int, int, boolean) IndexOutOfBoundsException",
        "int copyPage() IllegalStateException",
        "int count(int) IndexOutOfBoundsException",
        "int digitAt(int, int, int, boolean) IndexOutOfBoundsException NoSuchElementException",
        "int digitSum(int, int, boolean) IndexOutOfBoundsException",
        "int errorKind()",
        "int errorPlace()",
        "int errors()",
        "int example(int) IllegalArgumentException",
        "int leading(int) IndexOutOfBoundsException",
        "int leadingOnes(int) IndexOutOfBoundsException",
        "int longest(int, boolean)",
        "int pageAt(int) IndexOutOfBoundsException",
        "int pageLength()",
        "int run() IllegalStateException",
        "int sign(int) IndexOutOfBoundsException",
        "int sort(boolean)",
        "int textAt(int) IndexOutOfBoundsException",
        "int textLength()",
        "int trailing(int) IndexOutOfBoundsException",
        "int trailingOnes(int) IndexOutOfBoundsException",
        "int type(long) IllegalStateException",
        "int write(int, int, boolean) IndexOutOfBoundsException",
        "int writeBits(int, int) IndexOutOfBoundsException IllegalArgumentException",
        "int writeTen(int, boolean) IndexOutOfBoundsException",
        "long combine(int, int, int) IndexOutOfBoundsException IllegalArgumentException",
        "long fill(long, long)",
        "long highest(int) IndexOutOfBoundsException",
        "long lowest(int) IndexOutOfBoundsException",
        "long number(int) IndexOutOfBoundsException",
        "long reverse(int) IndexOutOfBoundsException",
        "long reverseBytes(int) IndexOutOfBoundsException",
        "long rotate(int, int, boolean) IndexOutOfBoundsException",
        "long set(int, long) IndexOutOfBoundsException",
        "long spread(int) IndexOutOfBoundsException",
    };

    public static void main(String[] args) throws IllegalAccessException {
        Class<?> face = RadixDesk.class;
        Check.due("modifiers of the class", Modifier.toString(face.getModifiers()), "public final");
        List<String> methods = new ArrayList<>();
        List<String> names = new ArrayList<>();
        for (Method method : face.getDeclaredMethods()) {
            if (!Modifier.isPrivate(method.getModifiers()) && !method.isSynthetic()) {
                Check.due("modifiers of " + method, Modifier.toString(method.getModifiers()), "public");
                methods.add(told(method));
                names.add(method.getName());
            }
        }
        Collections.sort(methods);
        Check.due("the methods", methods, List.of(FACE));
        constants(face);
        Constructor<?>[] constructors = face.getDeclaredConstructors();
        Check.due("how many constructors", constructors.length, 1);
        Check.due("the constructor", constructors[0].toString(), "public RadixDesk()");
        for (Method method : face.getDeclaredMethods()) {
            boolean bearsPublicName = Modifier.isPrivate(method.getModifiers()) && names.contains(method.getName());
            Check.due("private " + method.getName() + " bears a public name", bearsPublicName, false);
        }
        Check.end();
    }

    private static String told(Method method) {
        StringBuilder all = new StringBuilder();
        all.append(method.getReturnType().getName()).append(' ').append(method.getName()).append('(');
        for (int k = 0; k < method.getParameterTypes().length; k++) {
            all.append(k == 0 ? "" : ", ").append(method.getParameterTypes()[k].getName());
        }
        all.append(')');
        for (Class<?> exception : method.getExceptionTypes()) {
            all.append(' ').append(exception.getSimpleName());
        }
        return all.toString();
    }

    private static void constants(Class<?> face) throws IllegalAccessException {
        List<String> constants = new ArrayList<>();
        for (Field field : face.getDeclaredFields()) {
            if (!Modifier.isPrivate(field.getModifiers()) && !field.isSynthetic()) {
                Check.due("modifiers of " + field, Modifier.toString(field.getModifiers()), "public static final");
                constants.add(field.getName() + " = " + field.getInt(null));
            }
        }
        Collections.sort(constants);
        Check.due("the constants", constants, List.of("ADD = 0", "AND = 3", "BINARY = 2", "HEX = 0", "MULTIPLY = 2",
            "NONE = -1", "OCTAL = 1", "OR = 4", "SUBTRACT = 1", "XOR = 5"));
    }
}
