import java.io.IOException;
import java.nio.file.Files;
import java.nio.file.Path;
import java.util.regex.Matcher;
import java.util.regex.Pattern;

/** What of ../shared/LANGUAGE.md a look at the source's words can tell. */
public final class LanguageTest {
    private static final String[] FORBIDDEN = {
        "\\bfinally\\b", "\\bsynchronized\\b", "\\bassert\\b", "->", "::", "\\bstatic \\{", "\\bprotected\\b",
        "\\bpackage\\b", "\\bSystem\\.(?!arraycopy)", "Exact\\(", "\\.hashCode\\(", "\\.equals\\(", "\" *\\+", "\\+ *\"",
        "\\bThread\\b", "\\bvar\\b",
    };
    private static final int LONGEST_METHOD = 60;

    public static void main(String[] args) throws IOException {
        String source = Files.readString(Path.of("src/main/java/SofaDig.java"));
        Check.same("signs above 127", source.chars().anyMatch(sign -> sign > 127), false);
        String code = source.replaceAll("(?s)/\\*.*?\\*/", "").replaceAll("//[^\n]*", "");
        for (String words : FORBIDDEN) {
            Check.same("found " + words, Pattern.compile(words).matcher(code).find(), false);
        }
        Matcher imports = Pattern.compile("import ([^;]*);").matcher(code);
        while (imports.find()) {
            Check.same("import of " + imports.group(1), imports.group(1).equals("java.util.Arrays"), true);
        }
        Matcher statics = Pattern.compile("\\bstatic (?!final |class |[a-z]+ [a-zA-Z]+\\()").matcher(code);
        Check.same("a static field that is not final", statics.find(), false);
        methods(source);
        Check.finish();
    }

    private static void methods(String source) {
        String[] lines = source.split("\n");
        int start = -1;
        for (int line = 0; line < lines.length; line++) {
            if (lines[line].matches(" {4,8}[a-z][^;=]*\\([^;]*\\{") && !lines[line].contains("class ")) {
                start = line;
                Check.same("more than seven parameters: " + lines[line], lines[line].split(",").length > 7, false);
            }
            if (start >= 0 && lines[line].matches(" {4,8}\\}")) {
                Check.same("too long: " + lines[start], line - start < LONGEST_METHOD, true);
                start = -1;
            }
        }
    }
}
