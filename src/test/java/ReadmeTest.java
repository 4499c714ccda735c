import java.io.IOException;
import java.lang.reflect.InvocationTargetException;
import java.lang.reflect.Method;
import java.net.URL;
import java.net.URLClassLoader;
import java.nio.file.Files;
import java.nio.file.Path;
import java.util.regex.Matcher;
import java.util.regex.Pattern;
import javax.tools.ToolProvider;

// README.md's example: it compiles, and each of its calls answers what stands behind it; its table names every call.
public final class ReadmeTest {
    private static final Path README = Path.of("README.md");
    private static final Pattern EXAMPLE = Pattern.compile("```java\n(.*?)```", Pattern.DOTALL);
    private static final Pattern TOLD = Pattern.compile("(int \\w+ = )?(.+?);\\s*// (-?\\d+).*");

    private static int wrong = 0;
    private static int calls = 0;

    private static void tell(String what) {
        wrong++;
        System.out.println("README.md: " + what);
    }

    // The example calls it, from a class of its own.
    public static long due(String call, long got, long want) {
        calls++;
        if (got != want) tell(call + " answered " + got + ", it says " + want);
        return got;
    }

    private static String program(String example) {
        StringBuilder all = new StringBuilder("public final class Example {\n    public static void run() {\n");
        for (String line : example.split("\n")) {
            Matcher told = TOLD.matcher(line);
            if (told.matches()) {
                String kept = told.group(1) == null ? "" : told.group(1) + "(int) ";
                all.append(kept).append("ReadmeTest.due(\"").append(told.group(2).replace("\"", "'")).append("\", ");
                all.append(told.group(2)).append(", ").append(told.group(3)).append(");\n");
            } else {
                if (line.contains("//")) tell("what stands behind '" + line + "' is no answer");
                all.append(line).append('\n');
            }
        }
        return all.append("    }\n}\n").toString();
    }

    private static void runExample(String readme, Path work) throws Exception {
        Matcher example = EXAMPLE.matcher(readme);
        if (!example.find()) return;
        Path file = Files.writeString(work.resolve("Example.java"), program(example.group(1)));
        String[] options = {"-d", work.toString(), "-cp", System.getProperty("java.class.path"), file.toString()};
        if (ToolProvider.getSystemJavaCompiler().run(null, System.out, System.out, options) != 0) {
            tell("the example does not compile");
            return;
        }
        try (URLClassLoader loader = new URLClassLoader(new URL[] {work.toUri().toURL()}, ReadmeTest.class.getClassLoader())) {
            loader.loadClass("Example").getMethod("run").invoke(null);
        } catch (InvocationTargetException e) {
            tell("the example throws " + e.getCause());
        }
    }

    private static void lookAtTable(String readme) {
        StringBuilder first = new StringBuilder();
        for (String line : readme.split("\n")) {
            if (line.startsWith("| `")) first.append(line, 0, line.indexOf('|', 1));
        }
        for (Method method : Calls.class.getDeclaredMethods()) {
            if (first.indexOf("`" + method.getName() + "`") < 0) tell("the table is without " + method.getName());
        }
    }

    private static void remove(Path work) throws IOException {
        try (var files = Files.newDirectoryStream(work)) {
            for (Path file : files) Files.delete(file);
        }
        Files.delete(work);
    }

    public static void main(String[] args) throws Exception {
        String readme = Files.readString(README);
        Path work = Files.createTempDirectory("readme");
        runExample(readme, work);
        remove(work);
        lookAtTable(readme);
        if (calls == 0) tell("there is no example");
        System.out.println(wrong == 0 ? "README.md's " + calls + " calls are as due" : wrong + " things of README.md are not so");
        if (wrong != 0) System.exit(1);
    }
}
