import java.io.IOException;
import java.lang.reflect.InvocationTargetException;
import java.lang.reflect.Method;
import java.lang.reflect.Modifier;
import java.net.URL;
import java.net.URLClassLoader;
import java.nio.file.DirectoryStream;
import java.nio.file.Files;
import java.nio.file.Path;
import java.util.ArrayList;
import java.util.List;
import java.util.regex.Matcher;
import java.util.regex.Pattern;
import javax.tools.JavaCompiler;
import javax.tools.ToolProvider;

/** README.md: its example answers what stands behind each call, and the page names each call, class and test. */
public final class ReadmeTest {
    private static final int FEWEST_ANSWERS = 60;
    private static final Pattern ASKED = Pattern.compile("\\s*(house\\.\\w+\\(.*\\));\\s*// (-?\\d+|true|false)(:.*)?");
    private static final Due DUE = new Due("ReadmeTest");

    private ReadmeTest() {
    }

    public static void main(String[] args) throws Exception {
        List<String> page = Files.readAllLines(Path.of("README.md"));
        example(page);
        String text = String.join("\n", page);
        names(text);
        tests(text);
        DUE.end();
    }

    /** Called by the example, once it is compiled with its answers. */
    public static void is(int line, String call, int got, int due) {
        DUE.same("README.md, line " + line + ": " + call, got, due);
    }

    /** As above. */
    public static void is(int line, String call, boolean got, boolean due) {
        DUE.same("README.md, line " + line + ": " + call, got ? 1 : 0, due ? 1 : 0);
    }

    private static void example(List<String> page) throws Exception {
        int blocks = 0;
        int answers = 0;
        boolean inside = false;
        List<String> source = new ArrayList<>();
        for (int i = 0; i < page.size(); i++) {
            String line = page.get(i);
            if (line.startsWith("```")) {
                inside = line.equals("```java");
                blocks += inside ? 1 : 0;
            } else if (inside) {
                Matcher asked = ASKED.matcher(line);
                boolean answered = asked.matches();
                answers += answered ? 1 : 0;
                DUE.same("README.md, line " + (i + 1) + " asks and tells an answer", line.contains("house.") && !answered ? 0 : 1, 1);
                source.add(answered ? due(i + 1, asked.group(1), asked.group(2)) : line);
            }
        }
        DUE.same("examples in README.md", blocks, 1);
        DUE.same("answers in README.md: " + answers, answers >= FEWEST_ANSWERS ? 1 : 0, 1);
        run(source);
    }

    private static String due(int line, String call, String answer) {
        String told = call.replace("\\", "\\\\").replace("\"", "\\\"");
        return "ReadmeTest.is(" + line + ", \"" + told + "\", " + call + ", " + answer + ");";
    }

    private static void run(List<String> source) throws Exception {
        Path place = Files.createTempDirectory("readme");
        try {
            Path file = Files.write(place.resolve("Example.java"), source);
            JavaCompiler compiler = ToolProvider.getSystemJavaCompiler();
            String classes = System.getProperty("java.class.path");
            int end = compiler.run(null, null, null, "-proc:none", "-cp", classes, "-d", place.toString(), file.toString());
            DUE.same("README.md's example compiles", end, 0);
            if (end == 0) {
                call(place);
            }
        } finally {
            clear(place);
        }
    }

    private static void call(Path place) throws Exception {
        int before = DUE.asked();
        try (URLClassLoader loader = new URLClassLoader(new URL[] {place.toUri().toURL()}, ReadmeTest.class.getClassLoader())) {
            loader.loadClass("Example").getMethod("main", String[].class).invoke(null, (Object) new String[0]);
        } catch (InvocationTargetException e) {
            DUE.no("README.md's example throws " + e.getCause(), true);
        }
        DUE.same("README.md's example was asked through", DUE.asked() - before >= FEWEST_ANSWERS ? 1 : 0, 1);
    }

    private static void clear(Path place) throws IOException {
        try (DirectoryStream<Path> files = Files.newDirectoryStream(place)) {
            for (Path file : files) {
                Files.delete(file);
            }
        }
        Files.delete(place);
    }

    private static void names(String text) {
        for (Method m : GhostRota.class.getDeclaredMethods()) {
            if (Modifier.isPublic(m.getModifiers())) {
                DUE.same("README.md tells of " + m.getName(), numbersOf(text, m.getName()), m.getParameterCount());
            }
        }
        for (Class<?> c : GhostRota.class.getDeclaredClasses()) {
            DUE.yes("README.md tells of " + c.getSimpleName(), text.contains("`" + c.getSimpleName() + "`"));
        }
    }

    /** How many numbers a call has by the first place of the page that tells of it; -1: none does. */
    private static int numbersOf(String text, String call) {
        Matcher told = Pattern.compile("`" + call + "\\(([a-z, ]*)\\)`").matcher(text);
        if (!told.find()) {
            return -1;
        }
        return told.group(1).isEmpty() ? 0 : told.group(1).split(", ").length;
    }

    private static void tests(String text) throws IOException {
        int tests = 0;
        try (DirectoryStream<Path> files = Files.newDirectoryStream(Path.of("src/test/java"), "*Test.java")) {
            for (Path file : files) {
                String name = file.getFileName().toString().replace(".java", "");
                DUE.yes("README.md tells of " + name, text.contains("| `" + name + "` |"));
                tests++;
            }
        }
        int told = 0;
        Matcher rows = Pattern.compile("(?m)^\\| `\\w+Test` \\|").matcher(text);
        while (rows.find()) {
            told++;
        }
        DUE.same("tests that README.md tells of", told, tests);
    }
}
