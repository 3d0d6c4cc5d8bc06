import java.io.IOException;
import java.lang.reflect.Method;
import java.lang.reflect.Modifier;
import java.nio.file.Files;
import java.nio.file.Path;
import java.util.Set;
import java.util.TreeSet;
import java.util.regex.Matcher;
import java.util.regex.Pattern;
import java.util.stream.Stream;
import javax.tools.ToolProvider;

/** What README.md says is so: its example gives the answers beside it, and its tables leave nothing out. */
public final class ReadmeTest {
    private static final Path README = Path.of("README.md");
    // a call, over several lines too, and the answer at the head of the comment behind it
    private static final Pattern CALL =
            Pattern.compile("(?m)^((?:x\\.\\w+|read)\\([^;]*(?:\"[^\"]*\"[^;\"]*)*\\));[ ]+// (-?[0-9]+|true|false)\\b.*$");

    public static void main(String[] args) throws Exception {
        String text = Files.readString(README);
        example(text);
        Check.topic("README's calls");
        names(firstCells(text, "calls"), publicMethods());
        Check.topic("README's classes");
        names(firstCells(text, "class inside"), insides());
        Check.topic("README's tests");
        names(firstCells(text, "test"), tests());
        Check.end("ReadmeTest");
    }

    private static void example(String text) throws Exception {
        Check.topic("README's example");
        Matcher blocks = Pattern.compile("(?s)```java\n(.*?)```").matcher(text);
        Check.due("there is code to feed a text", blocks.find(), true);
        String feeding = blocks.group(1);
        Check.due("there is code that uses it", blocks.find(), true);
        String using = blocks.group(1);
        Check.due("there is no more code", blocks.find(), false);
        Matcher calls = CALL.matcher(using);
        int asked = (int) calls.results().count();
        String asking = calls.replaceAll("Check.due(\"call\", $1, $2);");
        Check.due("each call stands with its answer", asked, using.split(";[ ]+// ", -1).length - 1);
        Check.due("there are some twenty", asked >= 20, true);
        // each wrong answer tells which one it is
        for (int i = 1; i <= asked; i++) {
            asking = asking.replaceFirst("Check\\.due\\(\"call\"", "Check.due(\"answer " + i + "\"");
        }
        run("final class ReadmeExample {\n" + feeding + "static void go() {\n" + asking + "}\n}\n");
    }

    private static void run(String source) throws Exception {
        Path out = Files.createTempDirectory("readme");
        Path file = out.resolve("ReadmeExample.java");
        Files.writeString(file, source);
        String path = System.getProperty("java.class.path");
        int failed = ToolProvider.getSystemJavaCompiler().run(null, null, null, "-cp", path, "-d", path, file.toString());
        Files.delete(file);
        Files.delete(out);
        Check.due("it compiles", failed, 0);
        if (failed == 0) {
            Method go = Class.forName("ReadmeExample").getDeclaredMethod("go");
            go.setAccessible(true);
            go.invoke(null);
        }
    }

    /** The names in the first column of the table with this heading. */
    private static Set<String> firstCells(String text, String heading) {
        Set<String> found = new TreeSet<>();
        Matcher table = Pattern.compile("\\| " + heading + " \\|[^\n]*\n\\|[- |]+\\|\n((?:\\|[^\n]*\n)+)").matcher(text);
        Check.due("there is a table of each " + heading, table.find(), true);
        for (String row : table.group(1).split("\n")) {
            for (String name : row.split("\\|")[1].split(",")) {
                Check.due("told once: " + name, found.add(name.strip()), true);
            }
        }
        return found;
    }

    private static void names(Set<String> told, Set<String> there) {
        for (String name : told) {
            Check.due("there is " + name, there.contains(name), true);
        }
        for (String name : there) {
            Check.due("it tells of " + name, told.contains(name), true);
        }
    }

    private static Set<String> publicMethods() {
        Set<String> names = new TreeSet<>();
        for (Method method : CordLoft.class.getDeclaredMethods()) {
            if (Modifier.isPublic(method.getModifiers())) {
                names.add(method.getName());
            }
        }
        return names;
    }

    private static Set<String> insides() {
        Set<String> names = new TreeSet<>();
        for (Class<?> inside : CordLoft.class.getDeclaredClasses()) {
            names.add(inside.getSimpleName());
        }
        return names;
    }

    private static Set<String> tests() throws IOException {
        Set<String> names = new TreeSet<>();
        try (Stream<Path> files = Files.list(Path.of("src/test/java"))) {
            files.map(file -> file.getFileName().toString()).filter(name -> name.endsWith("Test.java"))
                    .forEach(name -> names.add(name.replace(".java", "")));
        }
        return names;
    }
}
