import java.io.ByteArrayOutputStream;
import java.io.IOException;
import java.io.PrintStream;
import java.lang.reflect.Method;
import java.lang.reflect.Modifier;
import java.net.URL;
import java.net.URLClassLoader;
import java.nio.charset.StandardCharsets;
import java.nio.file.Files;
import java.nio.file.Path;
import java.util.regex.Matcher;
import java.util.regex.Pattern;
import javax.tools.ToolProvider;

/** README.md: its program prints what stands behind it, and its list names every call of the face. */
public final class ReadmeTests {
    private static int wrong;

    /** Takes the path of README.md and an empty directory for the program. */
    public static void main(String[] args) throws Exception {
        String readme = Files.readString(Path.of(args[0]));
        program(block(readme, "java"), block(readme, "text"), Path.of(args[1]));
        calls(part(readme, "The calls"));
        System.out.println("ReadmeTests: " + wrong + " faults");
        System.exit(wrong == 0 ? 0 : 1);
    }

    private static void fault(String text) {
        wrong++;
        System.out.println(text);
    }

    private static String block(String readme, String language) {
        Matcher matcher = Pattern.compile("(?s)```" + language + "\n(.*?)```").matcher(readme);
        if (!matcher.find()) {
            fault("README.md has no block of " + language);
            return "";
        }
        return matcher.group(1);
    }

    private static String part(String readme, String heading) {
        int from = readme.indexOf("## " + heading + "\n");
        int to = readme.indexOf("\n## ", from + 1);
        if (from < 0 || to < 0) {
            fault("README.md has no part: " + heading);
            return "";
        }
        return readme.substring(from, to);
    }

    private static void program(String source, String want, Path directory) throws Exception {
        Path file = directory.resolve("Example.java");
        Files.writeString(file, source);
        String classes = Path.of(FormDesigner.class.getProtectionDomain().getCodeSource().getLocation().toURI()).toString();
        int compiled = ToolProvider.getSystemJavaCompiler().run(null, null, null,
                "-cp", classes, "-d", directory.toString(), file.toString());
        if (compiled != 0) {
            fault("the program of README.md does not compile");
            return;
        }
        String got = printed(directory);
        if (!got.equals(want)) {
            fault("the program of README.md prints:\n" + got);
        }
    }

    private static String printed(Path directory) throws IOException, ReflectiveOperationException {
        PrintStream screen = System.out;
        ByteArrayOutputStream bytes = new ByteArrayOutputStream();
        URL[] places = {directory.toUri().toURL()};
        try (URLClassLoader loader = new URLClassLoader(places, ReadmeTests.class.getClassLoader());
                PrintStream page = new PrintStream(bytes, true, StandardCharsets.UTF_8)) {
            System.setOut(page);
            loader.loadClass("Example").getMethod("main", String[].class).invoke(null, (Object) new String[0]);
        } finally {
            System.setOut(screen);
        }
        return bytes.toString(StandardCharsets.UTF_8).replace(System.lineSeparator(), "\n");
    }

    private static void calls(String list) {
        for (Method method : FormDesigner.class.getDeclaredMethods()) {
            if (Modifier.isPublic(method.getModifiers()) && !list.contains("`" + method.getName() + "`")) {
                fault("the list of README.md does not name " + method.getName());
            }
        }
    }
}
