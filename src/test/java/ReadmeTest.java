import java.io.ByteArrayOutputStream;
import java.io.IOException;
import java.io.PrintStream;
import java.lang.reflect.Field;
import java.lang.reflect.Method;
import java.lang.reflect.Modifier;
import java.net.URL;
import java.net.URLClassLoader;
import java.nio.charset.StandardCharsets;
import java.nio.file.Files;
import java.nio.file.Path;
import java.util.ArrayList;
import java.util.List;
import javax.tools.ToolProvider;

/** The example of README.md compiles and prints what stands there, and the page names every call. */
public final class ReadmeTest {
    private static final Path WORK = Path.of("build/readme");

    private ReadmeTest() {
    }

    public static void main(String[] args) throws Exception {
        List<String> lines = Files.readAllLines(Path.of("README.md"));
        Check.due("what the example prints", run(block(lines, "```java")), block(lines, "```text"));
        checkNames(lines);
        Check.finish();
    }

    /** The lines of the only block that begins so. */
    private static String block(List<String> lines, String fence) {
        Check.due("blocks of " + fence, lines.stream().filter(fence::equals).count(), 1L);
        int from = lines.indexOf(fence) + 1;
        int to = from + lines.subList(from, lines.size()).indexOf("```");
        return String.join("\n", lines.subList(from, to)) + "\n";
    }

    private static String run(String program) throws Exception {
        Files.createDirectories(WORK);
        Path file = Files.writeString(WORK.resolve("Example.java"), program);
        int failed = ToolProvider.getSystemJavaCompiler().run(null, null, null, "-encoding", "UTF-8", "-cp",
                System.getProperty("java.class.path"), "-d", WORK.toString(), file.toString());
        Check.due("the example compiles", failed, 0);
        ByteArrayOutputStream printed = new ByteArrayOutputStream();
        PrintStream before = System.out;
        System.setOut(new PrintStream(printed, true, StandardCharsets.UTF_8));
        try {
            callMain();
        } finally {
            System.setOut(before);
        }
        return printed.toString(StandardCharsets.UTF_8).replace(System.lineSeparator(), "\n");
    }

    private static void callMain() throws IOException, ReflectiveOperationException {
        try (URLClassLoader loader = new URLClassLoader(new URL[] {WORK.toUri().toURL()})) {
            loader.loadClass("Example").getMethod("main", String[].class).invoke(null, (Object) new String[0]);
        }
    }

    private static void checkNames(List<String> lines) {
        String page = String.join("\n", lines);
        List<String> missing = new ArrayList<>();
        for (Method method : OverlapBench.class.getDeclaredMethods()) {
            String name = method.getName();
            if (Modifier.isPublic(method.getModifiers()) && !page.contains("`" + name + "`") && !page.contains("`" + name + "(")) {
                missing.add(name);
            }
        }
        for (Field field : OverlapBench.class.getFields()) {
            if (!page.contains("`" + field.getName() + "`")) {
                missing.add(field.getName());
            }
        }
        Check.due("names that README.md does not have", missing, List.of());
    }
}
