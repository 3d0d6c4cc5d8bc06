import java.io.IOException;
import java.lang.reflect.Constructor;
import java.lang.reflect.Field;
import java.lang.reflect.Method;
import java.lang.reflect.Modifier;
import java.nio.file.Files;
import java.nio.file.Path;
import java.util.List;
import java.util.Set;
import java.util.TreeSet;
import java.util.regex.Matcher;
import java.util.regex.Pattern;

/** Rules of LANGUAGE.md that a look at the source or the compiled class can tell. */
public final class LanguageTest {
    public static void main(String[] args) throws IOException {
        Path source = Path.of(args.length > 0 ? args[0] : "src/main/java/CordLoft.java");
        String code = bare(Files.readString(source));
        forbiddenWords(code);
        methodLengths(code);
        face();
        insides();
        Check.end("LanguageTest");
    }

    /** The source without comments, texts and signs in quotes. */
    private static String bare(String source) {
        return source.replaceAll("(?s)/\\*.*?\\*/", "").replaceAll("//[^\n]*", "")
                .replaceAll("\"(\\\\.|[^\"\\\\])*\"", "\"\"").replaceAll("'(\\\\.|[^'\\\\])'", "' '");
    }

    private static void forbiddenWords(String code) {
        List<String> forbidden = List.of("\\bthrow\\b", "\\bthrows\\b", "\\btry\\b", "\\bcatch\\b", "\\bsynchronized\\b",
                "\\bassert\\b", "->", "::", "\\bpackage\\b", "\\bimport\\b", "\\bprotected\\b", "\\bnative\\b",
                "\\bSystem\\.(?!arraycopy)", "\\bThread\\b", "\\bObject\\b", "\\bvar\\b", "Exact\\(", "\"\"\\s*\\+",
                "\\+\\s*\"\"", "while \\(true\\)", "for \\(;;\\)", "\\.toString\\(", "\\.hashCode\\(");
        for (String word : forbidden) {
            Matcher found = Pattern.compile(word).matcher(code);
            if (found.find()) {
                Check.wrong("the source has " + word + " at " + found.start());
            }
        }
    }

    private static void methodLengths(String code) {
        int length = 0;
        boolean inside = false;
        for (String line : code.split("\n")) {
            boolean head = line.matches("\\s+(public |private |static |final )*[A-Za-z\\[\\]<>]+ ?\\w*\\([^;]*\\) \\{")
                    && !line.matches("\\s+(if|for|while|switch|\\} else).*");
            if (head) {
                length = 0;
                inside = true;
                Check.due("parameters of" + line, line.split(",").length <= 7, true);
            }
            length++;
            if (inside && length > 60) {
                Check.wrong("a method is longer than sixty lines, at" + line);
                inside = false;
            }
        }
    }

    private static void face() {
        Check.due("the class is public and final",
                Modifier.isPublic(CordLoft.class.getModifiers()) && Modifier.isFinal(CordLoft.class.getModifiers()), true);
        Set<String> names = new TreeSet<>();
        int open = 0;
        for (Method method : CordLoft.class.getDeclaredMethods()) {
            if (Modifier.isPublic(method.getModifiers())) {
                names.add(method.getName());
                open++;
            }
        }
        Check.due("public methods", open, 57);
        for (Method method : CordLoft.class.getDeclaredMethods()) {
            if (!Modifier.isPublic(method.getModifiers())) {
                Check.due("private and not named like a public one: " + method.getName(),
                        Modifier.isPrivate(method.getModifiers()) && !names.contains(method.getName()), true);
            }
        }
        for (Class<?> inner : CordLoft.class.getDeclaredClasses()) {
            for (Method method : inner.getDeclaredMethods()) {
                Check.due("not named like a public one: " + method.getName(), names.contains(method.getName()), false);
            }
        }
        for (Field field : CordLoft.class.getDeclaredFields()) {
            boolean constant = field.getName().equals("NONE") && Modifier.isPublic(field.getModifiers());
            Check.due("private: " + field.getName(), constant || Modifier.isPrivate(field.getModifiers()), true);
        }
        Constructor<?>[] made = CordLoft.class.getDeclaredConstructors();
        Check.due("one public constructor without parameters", made.length == 1
                && Modifier.isPublic(made[0].getModifiers()) && made[0].getParameterCount() == 0, true);
    }

    private static void insides() {
        Class<?>[] inner = CordLoft.class.getDeclaredClasses();
        Check.due("some twelve classes at the most", inner.length + 1 <= 12, true);
        for (Class<?> one : inner) {
            Check.due("static: " + one.getName(), Modifier.isStatic(one.getModifiers()), true);
            Check.due("not public: " + one.getName(), Modifier.isPublic(one.getModifiers()), false);
            fields(one);
        }
        fields(CordLoft.class);
    }

    private static void fields(Class<?> one) {
        int own = 0;
        for (Field field : one.getDeclaredFields()) {
            if (Modifier.isStatic(field.getModifiers())) {
                Check.due("final: " + field.getName(), Modifier.isFinal(field.getModifiers()), true);
            } else {
                own++;
            }
        }
        Check.due("some twenty fields at the most: " + one.getName(), own <= 20, true);
    }
}
