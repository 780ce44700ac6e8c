import java.io.File;
import java.io.IOException;
import java.lang.invoke.MethodHandles;
import java.lang.reflect.Method;
import java.nio.file.Files;
import java.nio.file.Path;
import java.util.Comparator;
import java.util.List;
import java.util.regex.Matcher;
import java.util.regex.Pattern;
import java.util.stream.Stream;
import javax.tools.ToolProvider;

/** README.md's Java is compiled and run, and must answer what is said behind it. It runs in the project's folder. */
public final class ReadmeTest {
    private static final Pattern BLOCK = Pattern.compile("(?s)```java\n(.*?)```");
    private static final Pattern TOLD = Pattern.compile("(.*);\\s+// (answers|throws) ([^\\s:,]+)(.*)");
    private static final Pattern CELL = Pattern.compile("cell (\\d) is (-?\\d+)");
    private static final Pattern PAGE = Pattern.compile("page is \"([^\"]*)\"");
    private static final Pattern TEXT = Pattern.compile("text is \"([^\"]*)\"");

    public static void main(String[] args) throws IOException, ReflectiveOperationException {
        String readme = Files.readString(Path.of("README.md"));
        StringBuilder program = new StringBuilder("import java.util.*;\npublic final class ReadmeRun {\n");
        int blocks = 0;
        for (Matcher block = BLOCK.matcher(readme); block.find(); blocks++) {
            program.append("public static void run").append(blocks).append("() {\n");
            block.group(1).lines().forEach(line -> program.append(checked(line)).append('\n'));
            program.append("}\n");
        }
        Check.due("blocks of Java in README.md", blocks, 3);
        run(program.append("}\n").toString(), blocks);
        everyCall(readme);
        Check.end();
    }

    /** A line that tells an answer or an exception becomes a check of it, and of cells, page and text that it tells. */
    private static String checked(String line) {
        Matcher told = TOLD.matcher(line);
        if (!told.matches()) {
            return line;
        }
        String call = told.group(1);
        String what = "Check.due(\"README.md: " + call.replace("\"", "'") + "\", ";
        StringBuilder all = new StringBuilder(what);
        if (told.group(2).equals("answers")) {
            all.append(call).append(", ").append(told.group(3));
        } else {
            all.append("Check.thrownBy(() -> ").append(call).append("), ").append(told.group(3)).append(".class");
        }
        all.append(");");
        for (Matcher cell = CELL.matcher(told.group(4)); cell.find();) {
            String number = "desk.number(" + cell.group(1) + ")";
            all.append(what).append(number).append(", ").append(cell.group(2)).append("L);");
        }
        for (Matcher page = PAGE.matcher(told.group(4)); page.find();) {
            all.append(what).append("Check.page(desk), \"").append(page.group(1)).append("\");");
        }
        for (Matcher text = TEXT.matcher(told.group(4)); text.find();) {
            all.append(what).append("Check.text(desk), \"").append(text.group(1)).append("\");");
        }
        return all.toString();
    }

    private static void run(String program, int blocks) throws IOException, ReflectiveOperationException {
        Path folder = Files.createTempDirectory("readme");
        try {
            Path file = folder.resolve("ReadmeRun.java");
            Files.writeString(file, program);
            int exit = ToolProvider.getSystemJavaCompiler().run(null, null, null, "-nowarn", "-cp",
                System.getProperty("java.class.path"), "-d", folder.toString(), file.toString());
            Check.due("javac of README.md's Java", exit, 0);
            if (exit == 0) {
                // Defined here, and not by a loader of its own, it may use Check.
                byte[] bytes = Files.readAllBytes(folder.resolve("ReadmeRun.class"));
                Class<?> made = MethodHandles.lookup().defineClass(bytes);
                for (int k = 0; k < blocks; k++) {
                    made.getMethod("run" + k).invoke(null);
                }
            }
        } finally {
            try (Stream<Path> all = Files.walk(folder)) {
                all.sorted(Comparator.reverseOrder()).map(Path::toFile).forEach(File::delete);
            }
        }
    }

    /** Each call of the class has its place in the table. */
    private static void everyCall(String readme) {
        List<String> rows = readme.lines().filter(line -> line.startsWith("| ")).toList();
        for (Method method : RadixDesk.class.getMethods()) {
            if (method.getDeclaringClass() == RadixDesk.class) {
                String name = "`" + method.getName() + "`";
                Check.due("README.md tells of " + name, rows.stream().anyMatch(row -> row.contains(name)), true);
            }
        }
    }
}
