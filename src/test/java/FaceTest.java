import java.lang.reflect.Constructor;
import java.lang.reflect.Method;
import java.lang.reflect.Modifier;
import java.util.Arrays;
import java.util.TreeSet;

/** The members that the document lists, and no others that can be reached from outside. */
public final class FaceTest {
    private static final String[] DUE = {
        "int feed(int,int,int,int,int) IllegalStateException",
        "int trim(int) IllegalArgumentException",
        "int teach()",
        "int errorAt()",
        "int seats()",
        "int strata()",
        "int finds()",
        "int days()",
        "int ordersCarriedOut()",
        "int cushionsDug()",
        "int slides()",
        "int found()",
        "int sureFinds()",
        "int props()",
        "int heightOf(int) IndexOutOfBoundsException",
        "boolean isPropped(int) IndexOutOfBoundsException",
        "int topStratum(int) IndexOutOfBoundsException IllegalStateException",
        "boolean isTopLoose(int) IndexOutOfBoundsException IllegalStateException",
        "boolean hasTopSpring(int) IndexOutOfBoundsException IllegalStateException",
        "int findsLeft(int) IndexOutOfBoundsException",
        "boolean isCoin(int) IndexOutOfBoundsException",
        "boolean isFound(int) IndexOutOfBoundsException",
        "boolean isSure(int) IndexOutOfBoundsException IllegalStateException",
        "int stratumOf(int) IndexOutOfBoundsException",
        "int yearOf(int) IndexOutOfBoundsException IllegalStateException",
        "int empireOf(int) IndexOutOfBoundsException IllegalStateException",
        "int buriedUnder(int) IndexOutOfBoundsException IllegalStateException",
        "int notBefore(int) IndexOutOfBoundsException",
        "boolean isSeenIn(int,int) IndexOutOfBoundsException",
        "boolean isMixed(int) IndexOutOfBoundsException",
        "int dig(int) IndexOutOfBoundsException IllegalStateException",
        "int prop(int) IndexOutOfBoundsException IllegalStateException",
        "int takeProp(int) IndexOutOfBoundsException IllegalStateException",
        "int passDays(int) IllegalArgumentException",
        "int foundAfter(int) IllegalArgumentException",
        "int daysUntilFound(int) IndexOutOfBoundsException",
        "int wouldSlide(int) IndexOutOfBoundsException IllegalStateException",
        "int bestDig()",
        "double meanYear()",
        "long digest()",
    };

    public static void main(String[] args) {
        TreeSet<String> due = new TreeSet<>(Arrays.asList(DUE));
        TreeSet<String> own = new TreeSet<>();
        for (Method method : SofaDig.class.getDeclaredMethods()) {
            if (!Modifier.isPrivate(method.getModifiers())) {
                own.add(describe(method));
                Check.same("public of " + method.getName(), Modifier.isPublic(method.getModifiers()), true);
            } else {
                Check.same("a public name on the private " + method.getName(), bearsPublicName(method), false);
            }
        }
        if (!own.equals(due)) {
            System.out.println("the face is " + own);
        }
        Check.same("the face's methods", own.equals(due), true);
        Check.same("final class", Modifier.isFinal(SofaDig.class.getModifiers()), true);
        Constructor<?>[] makers = SofaDig.class.getDeclaredConstructors();
        Check.same("constructors", makers.length, 1);
        Check.same("the constructor's parameters", makers[0].getParameterCount(), 0);
        for (java.lang.reflect.Field field : SofaDig.class.getDeclaredFields()) {
            Check.same("private of " + field.getName(), Modifier.isPrivate(field.getModifiers()), true);
        }
        Check.finish();
    }

    private static boolean bearsPublicName(Method method) {
        for (String face : DUE) {
            if (face.contains(" " + method.getName() + "(")) {
                return true;
            }
        }
        return false;
    }

    private static String describe(Method method) {
        StringBuilder text = new StringBuilder();
        text.append(method.getReturnType().getName()).append(' ').append(method.getName()).append('(');
        String comma = "";
        for (Class<?> type : method.getParameterTypes()) {
            text.append(comma).append(type.getName());
            comma = ",";
        }
        text.append(')');
        for (Class<?> thrown : method.getExceptionTypes()) {
            text.append(' ').append(thrown.getSimpleName());
        }
        return text.toString();
    }
}
