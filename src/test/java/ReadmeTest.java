import java.io.IOException;
import java.lang.reflect.InvocationTargetException;
import java.net.URL;
import java.net.URLClassLoader;
import java.nio.file.Files;
import java.nio.file.Path;
import java.util.regex.Matcher;
import java.util.regex.Pattern;
import javax.tools.ToolProvider;

/**
 * Compiles and runs the Java of README.md, with a check for each call that has its answer behind
 * it: a number, true, false, a constant, or "throws" with an exception, and maybe ": why".
 */
public final class ReadmeTest {
    private static final Pattern ANSWERED =
            Pattern.compile("(int \\w+ = )?(.+);\\s+// (-?\\d+|true|false|[A-Z]+(?:_[A-Z]+)*|throws \\w+)(?::.*|)");
    private static final int LEAST_ANSWERS = 40;

    public static void main(String[] args) throws IOException, ReflectiveOperationException {
        StringBuilder program = new StringBuilder();
        program.append("public final class ReadmeExample {\n    public static void main(String[] args) {\n");
        int answers = 0;
        boolean java = false;
        for (String line : Files.readAllLines(Path.of("README.md"))) {
            if (line.startsWith("```")) {
                java = line.equals("```java");
            } else if (java) {
                Matcher answered = ANSWERED.matcher(line);
                answers += answered.matches() ? 1 : 0;
                program.append(answered.matches() ? checked(answered) : line).append('\n');
            }
        }
        program.append("Check.end();\n    }\n}\n");
        Check.due("enough calls have their answers: " + answers, true, answers >= LEAST_ANSWERS);
        runs(program.toString());
        Check.end();
    }

    private static String checked(Matcher answered) {
        String taken = answered.group(1);
        String call = answered.group(2);
        String due = answered.group(3);
        String what = "\"README: " + call.replace("'", "") + "\"";
        if (due.startsWith("throws ")) {
            return "Check.dueThrow(" + what + ", " + due.substring(7) + ".class, () -> " + call + ");";
        }
        String value = due.matches("[A-Z_]+") ? "ChatRelay." + due : due;
        if (taken == null) {
            return "Check.due(" + what + ", " + value + ", " + call + ");";
        }
        String name = taken.split(" ")[1];
        return taken + call + "; Check.due(" + what + ", " + value + ", " + name + ");";
    }

    private static void runs(String program) throws IOException, ReflectiveOperationException {
        Path directory = Files.createTempDirectory("readme");
        Path source = directory.resolve("ReadmeExample.java");
        Files.writeString(source, program);
        int result = ToolProvider.getSystemJavaCompiler().run(null, null, null,
                "-cp", System.getProperty("java.class.path"), "-d", directory.toString(), source.toString());
        Check.due("README: its Java compiles", 0, result);
        if (result == 0) {
            runsCompiled(directory);
        }
        try (var files = Files.newDirectoryStream(directory)) {
            for (Path file : files) {
                Files.delete(file);
            }
        }
        Files.delete(directory);
    }

    /** All in one loader of its own, as classes without a package see each other in one loader alone. */
    private static void runsCompiled(Path directory) throws IOException, ReflectiveOperationException {
        URL tests = Path.of(System.getProperty("java.class.path")).toUri().toURL();
        URL[] at = {tests, directory.toUri().toURL()};
        try (URLClassLoader loader = new URLClassLoader(at, ClassLoader.getPlatformClassLoader())) {
            loader.loadClass("ReadmeExample").getMethod("main", String[].class).invoke(null, (Object) new String[0]);
        } catch (InvocationTargetException thrown) {
            Check.report("README: its Java threw " + thrown.getCause());
        }
    }
}
