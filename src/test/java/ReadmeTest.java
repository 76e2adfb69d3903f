import java.io.ByteArrayOutputStream;
import java.io.PrintStream;
import java.lang.reflect.Method;
import java.lang.reflect.Modifier;
import java.net.URL;
import java.net.URLClassLoader;
import java.nio.file.Files;
import java.nio.file.Path;
import java.util.List;
import java.util.regex.Matcher;
import java.util.regex.Pattern;
import java.util.stream.Stream;
import javax.tools.ToolProvider;

/** README.md: its example prints what stands there, and each call and each test is named in it. */
public final class ReadmeTest {
    public static void main(String[] args) throws Exception {
        String readme = Files.readString(Path.of("README.md"));
        example(readme);
        calls(readme);
        tests(readme);
        Told.finish("ReadmeTest");
    }

    private static void wrong(String what) {
        Told.wrong++;
        System.out.println(what);
    }

    private static String block(String readme, String language) {
        Matcher m = Pattern.compile("(?ms)^```" + language + "\n(.*?)^```$").matcher(readme);
        if (m.find()) return m.group(1);
        wrong("README.md has no block of " + language);
        return "";
    }

    private static void example(String readme) throws Exception {
        Path out = Files.createTempDirectory("readme");
        Path source = out.resolve("Example.java");
        Files.writeString(source, block(readme, "java"));
        int failed = ToolProvider.getSystemJavaCompiler().run(null, null, null, "-cp", System.getProperty("java.class.path"),
                "-d", out.toString(), source.toString());
        if (failed != 0) {
            wrong("the example does not compile");
            return;
        }
        ByteArrayOutputStream printed = new ByteArrayOutputStream();
        PrintStream screen = System.out;
        System.setOut(new PrintStream(printed, true));
        try (URLClassLoader loader = new URLClassLoader(new URL[] {out.toUri().toURL()})) {
            loader.loadClass("Example").getMethod("main", String[].class).invoke(null, (Object) new String[0]);
        } finally {
            System.setOut(screen);
        }
        List<String> got = printed.toString().lines().toList();
        List<String> due = block(readme, "text").lines().toList();
        if (!got.equals(due)) wrong("the example printed " + got + ", due is " + due);
        try (Stream<Path> files = Files.list(out)) {
            for (Path file : files.toList()) Files.delete(file);
        }
        Files.delete(out);
    }

    private static void calls(String readme) {
        for (Method m : HeirRoll.class.getDeclaredMethods()) {
            if (!Modifier.isPublic(m.getModifiers())) continue;
            Matcher row = Pattern.compile("(?m)^\\| `" + m.getName() + "\\(([^)]*)\\)` \\|").matcher(readme);
            if (!row.find()) {
                wrong("README.md does not name the call " + m.getName());
                continue;
            }
            int named = row.group(1).isEmpty() ? 0 : row.group(1).split(",").length;
            Told.due("arguments of " + m.getName() + " in README.md", named, m.getParameterCount());
        }
    }

    private static void tests(String readme) throws Exception {
        try (Stream<Path> files = Files.list(Path.of("src/test/java"))) {
            for (Path file : files.toList()) {
                if (!Files.readString(file).contains("public static void main")) continue;
                String test = file.getFileName().toString().replace(".java", "");
                if (!readme.contains("| `" + test + "` |")) wrong("README.md does not name the test " + test);
            }
        }
    }
}
