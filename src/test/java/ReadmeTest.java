import java.io.IOException;
import java.lang.reflect.InvocationTargetException;
import java.lang.reflect.Method;
import java.nio.file.Files;
import java.nio.file.Path;
import java.util.ArrayList;
import java.util.Arrays;
import java.util.List;
import java.util.regex.Matcher;
import java.util.regex.Pattern;

/** What README.md says that calls answer, and that it names every call of the face. */
public final class ReadmeTest {
    private static final Pattern TAPE = Pattern.compile("```text\n(seats.*?)```", Pattern.DOTALL);
    /* A call of numbers, and behind // its answer, up to a blank or a colon. */
    private static final Pattern CALL = Pattern.compile("sofa\\.(\\w+)\\(([-0-9, ]*)\\); *// ([^\\s:]+)");

    public static void main(String[] args) throws IOException, ReflectiveOperationException {
        String readme = Files.readString(Path.of("README.md"));
        Matcher tape = TAPE.matcher(readme);
        Check.same("a tape in README.md", tape.find(), true);
        SofaDig sofa = new SofaDig();
        feedText(sofa, tape.group(1));
        int calls = 0;
        Matcher call = CALL.matcher(readme);
        while (call.find()) {
            String got = answer(sofa, call.group(1), numbers(call.group(2)));
            calls++;
            if (!got.equals(call.group(3))) {
                System.out.println(call.group() + " -- answered " + got);
            }
            Check.same("as README.md says: " + call.group(), got.equals(call.group(3)), true);
        }
        Check.same("some calls in README.md", calls > 30, true);
        Check.same("calls of the sofa in README.md", calls, readme.split("\n {0,3}sofa\\.", -1).length - 1);
        namesEachCall(readme);
        Check.finish();
    }

    private static void namesEachCall(String readme) {
        for (Method method : SofaDig.class.getMethods()) {
            if (method.getDeclaringClass() == SofaDig.class) {
                Check.same("README.md names " + method.getName(), readme.contains("`" + method.getName() + "`"), true);
            }
        }
    }

    /** As README.md does it: filled up with blanks, and not trimmed. */
    private static void feedText(SofaDig sofa, String text) {
        for (int at = 0; at < text.length(); at += 20) {
            sofa.feed(four(text, at), four(text, at + 4), four(text, at + 8), four(text, at + 12), four(text, at + 16));
        }
    }

    private static int four(String text, int at) {
        int number = 0;
        for (int i = at; i < at + 4; i++) {
            number = number << 8 | (i < text.length() ? text.charAt(i) : ' ');
        }
        return number;
    }

    private static Object[] numbers(String list) {
        List<Object> numbers = new ArrayList<>();
        for (String number : list.split(",")) {
            if (!number.isBlank()) {
                numbers.add(Integer.valueOf(number.trim()));
            }
        }
        return numbers.toArray();
    }

    private static String answer(SofaDig sofa, String name, Object[] numbers) throws ReflectiveOperationException {
        Class<?>[] types = new Class<?>[numbers.length];
        Arrays.fill(types, int.class);
        try {
            return String.valueOf(SofaDig.class.getMethod(name, types).invoke(sofa, numbers));
        } catch (InvocationTargetException thrown) {
            return "throws." + thrown.getCause().getClass().getSimpleName();
        }
    }
}
