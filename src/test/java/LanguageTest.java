import java.io.IOException;
import java.lang.reflect.Constructor;
import java.lang.reflect.Field;
import java.lang.reflect.Method;
import java.lang.reflect.Modifier;
import java.nio.file.Files;
import java.nio.file.Path;
import java.util.ArrayList;
import java.util.List;
import java.util.Set;
import java.util.TreeSet;
import java.util.regex.Matcher;
import java.util.regex.Pattern;

/** The face is that of the document, and the source keeps to the rules of LANGUAGE.md that can be looked up in it. */
public final class LanguageTest {
    private static final Check check = new Check("LanguageTest");
    private static final Set<String> IMPORTS = Set.of("java.util.ArrayList", "java.util.List",
        "java.util.NoSuchElementException", "java.util.Arrays", "java.util.Iterator");

    private LanguageTest() {
    }

    public static void main(String[] args) throws IOException {
        String source = Files.readString(Path.of("src/main/java/Taperhall.java"));
        String code = withoutComments(source);
        face(Files.readString(Path.of("../shared/DOC.md")));
        members();
        imports(code);
        words(code);
        methods(code);
        check.end();
    }

    private static String withoutComments(String source) {
        return source.replaceAll("(?s)/\\*.*?\\*/", "").replaceAll("//[^\n]*", "");
    }

    private static void face(String document) {
        Matcher block = Pattern.compile("(?s)public final class Taperhall \\{(.*?)\n\\}").matcher(document);
        check.holds("the document has a face", block.find());
        Set<String> due = new TreeSet<>();
        for (String line : block.group(1).split("\n")) {
            if (line.contains("(") && !line.contains("Taperhall()")) {
                int end = line.indexOf(')');
                String head = line.substring(0, end).replaceAll("(\\w+) \\w+(?=,|$)", "$1");
                due.add((head + line.substring(end)).replace(";", "").trim());
            }
        }
        Set<String> got = new TreeSet<>();
        for (Method method : Taperhall.class.getDeclaredMethods()) {
            if (!Modifier.isPrivate(method.getModifiers())) {
                got.add(told(method));
            }
        }
        check.sameText("the methods", String.join("\n", got), String.join("\n", due));
        check.same("how many methods", got.size(), 44);
        check.same("the modifiers", Taperhall.class.getModifiers(), Modifier.PUBLIC | Modifier.FINAL);
        Constructor<?>[] constructors = Taperhall.class.getDeclaredConstructors();
        check.holds("one constructor", constructors.length == 1 && constructors[0].getParameterCount() == 0);
        check.holds("it is public", Modifier.isPublic(constructors[0].getModifiers()));
    }

    private static String told(Method method) {
        StringBuilder text = new StringBuilder(Modifier.toString(method.getModifiers()));
        text.append(' ').append(method.getReturnType().getSimpleName()).append(' ').append(method.getName());
        text.append('(').append(names(method.getParameterTypes())).append(')');
        if (method.getExceptionTypes().length > 0) {
            text.append(" throws ").append(names(method.getExceptionTypes()));
        }
        return text.toString();
    }

    private static String names(Class<?>[] types) {
        List<String> names = new ArrayList<>();
        for (Class<?> type : types) {
            names.add(type.getSimpleName());
        }
        return String.join(", ", names);
    }

    private static void members() {
        Set<String> face = new TreeSet<>();
        for (Method method : Taperhall.class.getDeclaredMethods()) {
            if (Modifier.isPublic(method.getModifiers())) {
                face.add(method.getName());
            }
        }
        List<Class<?>> classes = new ArrayList<>(List.of(Taperhall.class.getDeclaredClasses()));
        check.holds("at most twelve classes", classes.size() + 1 <= 12);
        for (Class<?> one : classes) {
            check.holds(one + " is static", Modifier.isStatic(one.getModifiers()));
            check.holds(one + " is not public", !Modifier.isPublic(one.getModifiers()));
        }
        classes.add(Taperhall.class);
        for (Class<?> one : classes) {
            int fields = 0;
            for (Field field : one.getDeclaredFields()) {
                boolean constant = Modifier.isStatic(field.getModifiers());
                fields += constant ? 0 : 1;
                check.holds(field + " is private", Modifier.isPrivate(field.getModifiers()));
                check.holds(field + " is final", !constant || Modifier.isFinal(field.getModifiers()));
            }
            check.holds(one + " has at most twenty fields", fields <= 20);
            for (Method method : one.getDeclaredMethods()) {
                boolean own = !Modifier.isPublic(method.getModifiers());
                check.holds(method + " bears no public name", !own || !face.contains(method.getName()));
                check.holds(method + " has at most seven parameters", method.getParameterCount() <= 7);
            }
        }
    }

    private static void imports(String code) {
        Matcher line = Pattern.compile("import ([^;]+);").matcher(code);
        while (line.find()) {
            check.holds("import " + line.group(1), IMPORTS.contains(line.group(1)));
        }
    }

    private static void words(String code) {
        String[] refused = {"\\bfinally\\b", "\\bsynchronized\\b", "\\bassert\\b", "->", "::", "\\btry\\b", "\"",
            "\\bvar\\b", "\\bsuper\\b", "\\bnative\\b", "\\bvolatile\\b", "\\bSystem\\.(?!arraycopy)", "Exact\\(",
            "\\bObject\\b", "\\bpackage\\b", "(Integer|Long)\\.M", "\\bprotected\\b", "Math\\.(?!max|min)"};
        for (String word : refused) {
            check.holds("no " + word, !Pattern.compile(word).matcher(code).find());
        }
        Matcher thrown = Pattern.compile("throw ([^;]*);").matcher(code);
        while (thrown.find()) {
            check.holds(thrown.group(1), thrown.group(1).matches("new (IllegalState|IllegalArgument|IndexOutOfBounds"
                + "|Arithmetic|UnsupportedOperation|NoSuchElement)Exception\\(\\)"));
        }
    }

    private static void methods(String code) {
        String[] lines = code.split("\n");
        int start = 0;
        for (int at = 0; at < lines.length; at++) {
            if (lines[at].matches(" {4,8}(public|private)[^;=]*\\(.*") || lines[at].contains(" class ")) {
                start = at;
            }
            if (lines[at].matches(" {4}\\}| {8}\\}")) {
                check.holds("a method of some sixty lines ends in line " + at, at - start < 60
                    || lines[start].contains(" class "));
            }
            check.holds("the line " + at + " is ASCII", lines[at].chars().allMatch(sign -> sign < 127));
        }
    }
}
