import java.io.IOException;
import java.lang.reflect.Method;
import java.lang.reflect.Modifier;
import java.net.URL;
import java.net.URLClassLoader;
import java.nio.file.Files;
import java.nio.file.Path;
import java.util.regex.Matcher;
import java.util.regex.Pattern;
import javax.tools.ToolProvider;

/** README.md tells the truth: its example compiles and answers as it says, and its table names every call. */
public final class ReadmeTest {
    private static final Pattern BLOCK = Pattern.compile("(?s)```java\n(.*?)```");
    private static final Pattern LINE = Pattern.compile("(?:(?:int|long|boolean) (\\w+) = )?(x\\.\\w+\\(.*\\));\\s*// (-?\\w+).*");
    private static int asked = 0;
    private static int wrong = 0;

    /** The example calls this for each line that says what is answered. */
    public static void due(String line, Object got, Object due) {
        asked++;
        if (!String.valueOf(got).equals(String.valueOf(due))) {
            wrong(line + " answered " + got);
        }
    }

    private static void wrong(String what) {
        wrong++;
        System.out.println("README.md: " + what);
    }

    private static String programOf(String example) {
        StringBuilder program = new StringBuilder("public final class Example { public static void run() {\n");
        for (String line : example.split("\n")) {
            Matcher m = LINE.matcher(line.trim());
            if (!m.matches()) {
                program.append(line).append('\n');
                continue;
            }
            String quoted = '"' + m.group(2) + '"';
            String got = m.group(2);
            if (m.group(1) != null) {
                program.append(line).append('\n');
                got = m.group(1);
            }
            program.append("ReadmeTest.due(").append(quoted).append(", ").append(got).append(", ").append(m.group(3)).append(");\n");
        }
        return program.append("}}\n").toString();
    }

    private static void runExample(String example) throws IOException, ReflectiveOperationException {
        Path folder = Files.createTempDirectory("readme");
        Path source = folder.resolve("Example.java");
        Files.writeString(source, programOf(example));
        String classes = System.getProperty("java.class.path");
        int failed = ToolProvider.getSystemJavaCompiler().run(null, null, null, "-cp", classes, "-d", folder.toString(), source.toString());
        if (failed != 0) {
            wrong("its example does not compile");
        } else {
            try (URLClassLoader loader = new URLClassLoader(new URL[] {folder.toUri().toURL()})) {
                loader.loadClass("Example").getMethod("run").invoke(null);
            }
        }
        Files.deleteIfExists(folder.resolve("Example.class"));
        Files.delete(source);
        Files.delete(folder);
    }

    private static void checkTable(String readme) {
        for (Method m : LifeKeys.class.getDeclaredMethods()) {
            if (Modifier.isPublic(m.getModifiers()) && !Pattern.compile("(?m)^\\|.*`" + m.getName() + "`").matcher(readme).find()) {
                wrong("its table does not name " + m.getName());
            }
        }
    }

    public static void main(String[] args) throws IOException, ReflectiveOperationException {
        String readme = Files.readString(Path.of("README.md"));
        Matcher block = BLOCK.matcher(readme);
        while (block.find()) {
            runExample(block.group(1));
        }
        checkTable(readme);
        if (asked == 0) {
            wrong("it has no example that says what is answered");
        }
        System.out.println(asked + " answers of the README asked for, " + wrong + " things are not as it says");
        if (wrong != 0) {
            System.exit(1);
        }
    }
}
