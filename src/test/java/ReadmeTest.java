import java.io.ByteArrayOutputStream;
import java.io.IOException;
import java.io.PrintStream;
import java.lang.reflect.Method;
import java.lang.reflect.Modifier;
import java.net.URL;
import java.net.URLClassLoader;
import java.nio.charset.StandardCharsets;
import java.nio.file.Files;
import java.nio.file.Path;
import java.util.ArrayList;
import java.util.List;
import java.util.regex.Matcher;
import java.util.regex.Pattern;
import java.util.stream.Stream;
import javax.tools.ToolProvider;

/** README.md names every call and every test, and its program compiles and prints what it says. */
public final class ReadmeTest {
    private static final Check check = new Check("ReadmeTest");
    private static final Path CLASS = Path.of("src/main/java/Taperhall.java");

    private ReadmeTest() {
    }

    public static void main(String[] args) throws Exception {
        String page = Files.readString(Path.of("README.md"));
        calls(page);
        tests(page);
        program(page);
        check.end();
    }

    private static void calls(String page) {
        for (Method method : Taperhall.class.getDeclaredMethods()) {
            if (Modifier.isPublic(method.getModifiers())) {
                String row = "(?m)^\\|.*`" + method.getName() + "`.*\\|$";
                check.holds("a row with " + method.getName(), Pattern.compile(row).matcher(page).find());
            }
        }
    }

    private static void tests(String page) throws IOException {
        try (Stream<Path> files = Files.list(Path.of("src/test/java"))) {
            for (Path file : files.sorted().toList()) {
                String name = file.getFileName().toString().replace(".java", "");
                check.holds("a word of " + name, !name.endsWith("Test") || page.contains("`" + name + "`"));
            }
        }
    }

    private static void program(String page) throws Exception {
        Matcher block = Pattern.compile("(?s)```java\n(.*?)```").matcher(page);
        check.holds("there is a program", block.find());
        String program = block.group(1);
        Path folder = Files.createTempDirectory("readme");
        Path source = Files.writeString(folder.resolve("Season.java"), program);
        int code = ToolProvider.getSystemJavaCompiler().run(null, null, null,
            "-d", folder.toString(), CLASS.toString(), source.toString());
        check.same("the compiler's code", code, 0);
        if (code == 0) {
            check.sameText("what is printed", String.join("\n", printed(folder)), String.join("\n", told(program)));
        }
        remove(folder);
    }

    /** The words behind each line that prints. */
    private static List<String> told(String program) {
        List<String> lines = new ArrayList<>();
        Matcher line = Pattern.compile("println\\(.*\\); +// (.*)").matcher(program);
        while (line.find()) {
            lines.add(line.group(1));
        }
        check.same("lines that print, with words behind them", lines.size(), program.split("println").length - 1);
        return lines;
    }

    private static List<String> printed(Path folder) throws Exception {
        ByteArrayOutputStream bytes = new ByteArrayOutputStream();
        PrintStream before = System.out;
        ClassLoader parent = ClassLoader.getPlatformClassLoader();
        try (URLClassLoader loader = new URLClassLoader(new URL[] {folder.toUri().toURL()}, parent)) {
            System.setOut(new PrintStream(bytes, true, StandardCharsets.UTF_8));
            Method main = loader.loadClass("Season").getMethod("main", String[].class);
            main.invoke(null, (Object) new String[0]);
        } finally {
            System.setOut(before);
        }
        return bytes.toString(StandardCharsets.UTF_8).lines().toList();
    }

    private static void remove(Path folder) throws IOException {
        try (Stream<Path> files = Files.list(folder)) {
            for (Path file : files.toList()) {
                Files.delete(file);
            }
        }
        Files.delete(folder);
    }
}
