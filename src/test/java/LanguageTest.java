import java.io.IOException;
import java.lang.reflect.Field;
import java.lang.reflect.Method;
import java.lang.reflect.Modifier;
import java.nio.file.Files;
import java.nio.file.Path;
import java.util.Set;
import java.util.regex.Matcher;
import java.util.regex.Pattern;

/** What of ../shared/LANGUAGE.md a look at the source's words and at the classes can tell. */
public final class LanguageTest {
    private static final String[] FORBIDDEN = {
        "\\bfinally\\b", "\\bsynchronized\\b", "\\bassert\\b", "->", "::", "\\bstatic \\{", "\\bprotected\\b",
        "\\bpackage\\b", "\\bSystem\\.(?!arraycopy)", "Exact\\(", "\\.hashCode\\(", "\\.equals\\(", "\" *\\+", "\\+ *\"",
        "\\bThread\\b", "\\bvar\\b",
    };
    private static final int LONGEST_METHOD = 60;
    private static final int MOST_CLASSES = 12;
    private static final int MOST_FIELDS = 20;
    private static final int MOST_PARAMETERS = 7;
    private static final Set<Class<?>> CONSTANTS = Set.of(int.class, long.class, boolean.class, char.class, String.class);

    public static void main(String[] args) throws IOException {
        String source = Files.readString(Path.of("src/main/java/SofaDig.java"));
        Check.same("signs above 127", source.chars().anyMatch(sign -> sign > 127), false);
        String code = source.replaceAll("(?s)/\\*.*?\\*/", "").replaceAll("//[^\n]*", "");
        for (String words : FORBIDDEN) {
            Check.same("found " + words, Pattern.compile(words).matcher(code).find(), false);
        }
        Matcher imports = Pattern.compile("import ([^;]*);").matcher(code);
        while (imports.find()) {
            Check.same("import of " + imports.group(1), imports.group(1).equals("java.util.Arrays"), true);
        }
        Matcher statics = Pattern.compile("\\bstatic (?!final |class |[a-z]+ [a-zA-Z]+\\()").matcher(code);
        Check.same("a static field that is not final", statics.find(), false);
        methods(source);
        classes();
        Check.finish();
    }

    private static void classes() {
        Class<?>[] inside = SofaDig.class.getDeclaredClasses();
        Check.same("classes in the file, " + (inside.length + 1), inside.length + 1 <= MOST_CLASSES, true);
        members(SofaDig.class);
        for (Class<?> part : inside) {
            int kind = part.getModifiers();
            Check.same("a static class: " + part, Modifier.isStatic(kind), true);
            Check.same("a class to be seen outside: " + part, Modifier.isPublic(kind) || Modifier.isProtected(kind), false);
            members(part);
        }
    }

    private static void members(Class<?> part) {
        int fields = 0;
        for (Field field : part.getDeclaredFields()) {
            if (Modifier.isStatic(field.getModifiers())) {
                Check.same("a constant: " + field, Modifier.isFinal(field.getModifiers()), true);
                Check.same("a constant's type: " + field, CONSTANTS.contains(field.getType()), true);
            } else {
                fields++;
            }
        }
        Check.same("fields of " + part + ", " + fields, fields <= MOST_FIELDS, true);
        for (Method method : part.getDeclaredMethods()) {
            Check.same("more than seven parameters: " + method, method.getParameterCount() > MOST_PARAMETERS, false);
        }
    }

    private static void methods(String source) {
        String[] lines = source.split("\n");
        int start = -1;
        for (int line = 0; line < lines.length; line++) {
            if (lines[line].matches(" {4,8}[a-z][^;=]*\\([^;]*\\{") && !lines[line].contains("class ")) {
                start = line;
            }
            if (start >= 0 && lines[line].matches(" {4,8}\\}")) {
                Check.same("too long: " + lines[start], line - start < LONGEST_METHOD, true);
                start = -1;
            }
        }
    }
}
