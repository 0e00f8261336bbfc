import java.io.ByteArrayOutputStream;
import java.io.IOException;
import java.io.PrintStream;
import java.lang.reflect.Method;
import java.lang.reflect.Modifier;
import java.net.URL;
import java.net.URLClassLoader;
import java.nio.charset.StandardCharsets;
import java.nio.file.Files;
import java.nio.file.Path;
import java.util.ArrayList;
import java.util.List;
import java.util.regex.Matcher;
import java.util.regex.Pattern;
import javax.tools.ToolProvider;

/** What README.md says is so: its example prints what stands beside it, and no call is left out. */
public final class ReadmeTest {
    private static int wrong = 0;

    private static void due(boolean is, String what) {
        if (!is) {
            wrong++;
            System.out.println("not so: " + what);
        }
    }

    private static String exampleOf(String page) {
        Matcher block = Pattern.compile("(?s)```java\n(.*?)```").matcher(page);
        return block.find() ? block.group(1) : "";
    }

    /** The number with which the comment behind each print begins. */
    private static List<String> said(String example) {
        List<String> numbers = new ArrayList<>();
        Matcher print = Pattern.compile("println\\(.*//\\s*(-?\\d+)").matcher(example);
        while (print.find()) {
            numbers.add(print.group(1));
        }
        return numbers;
    }

    private static List<String> printed(Path out) throws IOException, ReflectiveOperationException {
        PrintStream before = System.out;
        ByteArrayOutputStream taken = new ByteArrayOutputStream();
        try (URLClassLoader loader = new URLClassLoader(new URL[] {out.toUri().toURL()})) {
            Method main = loader.loadClass("Evening").getMethod("main", String[].class);
            System.setOut(new PrintStream(taken, true, StandardCharsets.UTF_8));
            main.invoke(null, (Object) new String[0]);
        } finally {
            System.setOut(before);
        }
        return taken.toString(StandardCharsets.UTF_8).lines().toList();
    }

    private static void example(String page) throws IOException, ReflectiveOperationException {
        String example = exampleOf(page);
        Path out = Files.createTempDirectory("readme");
        Path source = Files.writeString(out.resolve("Evening.java"), example);
        int compiled = ToolProvider.getSystemJavaCompiler().run(null, null, null, "-d", out.toString(),
            "-cp", System.getProperty("java.class.path"), source.toString());
        due(compiled == 0, "the example compiles");
        if (compiled == 0) {
            List<String> got = printed(out);
            due(!got.isEmpty() && got.equals(said(example)), "the example prints what is said, but " + got);
        }
        Files.deleteIfExists(out.resolve("Evening.class"));
        Files.deleteIfExists(source);
        Files.deleteIfExists(out);
    }

    private static void calls(String page) {
        for (Method m : ClockOfSwallows.class.getDeclaredMethods()) {
            if (Modifier.isPublic(m.getModifiers())) {
                due(Pattern.compile("`" + m.getName() + "[`(]").matcher(page).find(), m.getName() + " is named");
            }
        }
    }

    public static void main(String[] args) throws IOException, ReflectiveOperationException {
        String page = Files.readString(Path.of("README.md"));
        example(page);
        calls(page);
        System.out.println(wrong == 0 ? "README.md says what is so" : wrong + " things are not so");
        if (wrong != 0) {
            System.exit(1);
        }
    }
}
