import java.util.function.LongSupplier;

/** What all tests share: comparing answers, teaching a text, and ending with 1 if something was wrong. */
final class Check {
    /** Told apart from every answer by being far away from all of them. */
    static final long STATE = Long.MIN_VALUE + 1;
    static final long ARGUMENT = Long.MIN_VALUE + 2;
    static final long INDEX = Long.MIN_VALUE + 3;

    private static int wrong = 0;
    private static int looked = 0;

    private Check() {
    }

    static void same(String what, long got, long due) {
        looked++;
        if (got != due) {
            wrong++;
            if (wrong <= 40) {
                System.out.println(what + " answered " + told(got) + ", due is " + told(due));
            }
        }
    }

    static void same(String what, boolean got, boolean due) {
        same(what, got ? 1 : 0, due ? 1 : 0);
    }

    static void same(String what, double got, double due) {
        same(what, Double.doubleToLongBits(got), Double.doubleToLongBits(due));
    }

    /** The call's answer, or what it throws. */
    static long answer(LongSupplier call) {
        try {
            return call.getAsLong();
        } catch (RuntimeException thrown) {
            // The exact class is due, not one below it.
            if (thrown.getClass() == IllegalStateException.class) {
                return STATE;
            }
            if (thrown.getClass() == IllegalArgumentException.class) {
                return ARGUMENT;
            }
            if (thrown.getClass() == IndexOutOfBoundsException.class) {
                return INDEX;
            }
            throw thrown;
        }
    }

    static void due(String what, LongSupplier call, long due) {
        same(what, answer(call), due);
    }

    static long bit(boolean so) {
        return so ? 1 : 0;
    }

    static void feedText(SofaDig dig, String text) {
        int start = dig.trim(0);
        for (int at = start; at < text.length(); at += 20) {
            dig.feed(word(text, at), word(text, at + 4), word(text, at + 8), word(text, at + 12), word(text, at + 16));
        }
        dig.trim(text.length());
    }

    static int teachText(SofaDig dig, String text) {
        feedText(dig, text);
        return dig.teach();
    }

    static SofaDig taught(String text) {
        SofaDig dig = new SofaDig();
        same("teach() of " + text, teachText(dig, text), 0);
        return dig;
    }

    /** The text is a sofa. */
    static void holds(String text) {
        same("errorAt() of " + text, taught(text).errorAt(), -1);
    }

    /** The text without the mark ^ has this error, where the mark stands. */
    static void fails(int error, String marked) {
        int place = marked.indexOf('^');
        failsAt(error, place, marked.substring(0, place) + marked.substring(place + 1));
    }

    static void failsAt(int error, int place, String text) {
        SofaDig dig = new SofaDig();
        same("teach() of " + text, teachText(dig, text), error);
        same("errorAt() of " + text, dig.errorAt(), place);
    }

    private static int word(String text, int at) {
        int word = 0;
        for (int i = at; i < at + 4; i++) {
            word = word << 8 | (i < text.length() ? text.charAt(i) & 255 : ' ');
        }
        return word;
    }

    private static String told(long answer) {
        if (answer == STATE) {
            return "throws.IllegalStateException";
        }
        if (answer == ARGUMENT) {
            return "throws.IllegalArgumentException";
        }
        return answer == INDEX ? "throws.IndexOutOfBoundsException" : Long.toString(answer);
    }

    static void finish() {
        if (wrong > 0 || looked == 0) {
            System.out.println(wrong + " of " + looked + " answers are wrong");
            System.exit(1);
        }
        System.out.println(looked + " answers are as due");
    }
}
