import java.io.ByteArrayOutputStream;
import java.io.File;
import java.io.IOException;
import java.io.PrintStream;
import java.lang.reflect.Method;
import java.lang.reflect.Modifier;
import java.net.URL;
import java.net.URLClassLoader;
import java.nio.file.Files;
import java.nio.file.Path;
import java.util.regex.Matcher;
import java.util.regex.Pattern;
import javax.tools.ToolProvider;

/** README.md: its example compiles and prints what stands there; it names every call and every test. */
public final class ReadmeTest {
    public static void main(String[] args) throws IOException, ReflectiveOperationException {
        String page = Files.readString(Path.of("README.md"));
        example(block(page, "java"), block(page, "text"));
        everyCall(page);
        everyTest(page);
        Check.due("it says how to run the tests", page.contains("    .ci/run\n") ? 1 : 0, 1);
        Check.end();
    }

    private static String block(String page, String kind) {
        Matcher m = Pattern.compile("(?s)```" + kind + "\n(.*?)```").matcher(page);
        boolean isThere = m.find();
        Check.due("a block of " + kind, isThere ? 1 : 0, 1);
        return isThere ? m.group(1) : "";
    }

    private static void example(String program, String due) throws IOException, ReflectiveOperationException {
        Path place = Files.createTempDirectory("readme");
        Path file = Files.writeString(place.resolve("Example.java"), program);
        Path compiled = place.resolve("Example.class");
        String classes = System.getProperty("java.class.path");
        int code = ToolProvider.getSystemJavaCompiler().run(null, null, null, "-Xlint:all", "-cp", classes, "-d",
            place.toString(), file.toString());
        Check.due("the example compiles", code, 0);
        if (code == 0) {
            String[] lines = printed(place).split("\n");
            String[] dueLines = due.split("\n");
            Check.due("lines of the example", lines.length, dueLines.length);
            for (int i = 0; i < Math.min(lines.length, dueLines.length); i++) {
                Check.due("printed is \"" + lines[i] + "\", README.md has \"" + dueLines[i] + "\"",
                    lines[i].equals(dueLines[i]) ? 1 : 0, 1);
            }
        }
        for (Path made : new Path[] {compiled, file, place}) {
            Files.deleteIfExists(made);
        }
    }

    private static String printed(Path place) throws IOException, ReflectiveOperationException {
        PrintStream out = System.out;
        ByteArrayOutputStream printed = new ByteArrayOutputStream();
        try (URLClassLoader loader = new URLClassLoader(new URL[] {place.toUri().toURL()}, ReadmeTest.class.getClassLoader());
             PrintStream to = new PrintStream(printed)) {
            System.setOut(to);
            loader.loadClass("Example").getMethod("main", String[].class).invoke(null, (Object) new String[0]);
        } finally {
            System.setOut(out);
        }
        return printed.toString().replace(System.lineSeparator(), "\n");
    }

    private static void everyCall(String page) {
        for (Method m : PrinterLights.class.getDeclaredMethods()) {
            if (Modifier.isPublic(m.getModifiers())) {
                Check.due("names " + m.getName(), page.contains("`" + m.getName() + "`") ? 1 : 0, 1);
            }
        }
        for (Class<?> c : PrinterLights.class.getDeclaredClasses()) {
            Check.due("names " + c.getSimpleName(), page.contains("`" + c.getSimpleName() + "`") ? 1 : 0, 1);
        }
    }

    /** `TonesTest` .. `OrdersTest` stands for the six parts. */
    private static void everyTest(String page) {
        String parts = "(Tones|Lists|Grading|Strips|Reels|Orders)(Bounds)?Test";
        File[] tests = new File("src/test/java").listFiles((place, name) -> name.endsWith(".java"));
        Check.due("tests", tests != null && tests.length > 0 ? 1 : 0, 1);
        for (File test : tests == null ? new File[0] : tests) {
            String name = test.getName().replace(".java", "");
            Check.due("names " + name, name.matches(parts) || page.contains("`" + name + "`") ? 1 : 0, 1);
        }
    }
}
