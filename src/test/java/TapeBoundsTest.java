/** The edges of the tape: promises 1 to 5, and what "1. The language" says of its bytes and positions. */
public final class TapeBoundsTest {
    private static final int BLANKS = 0x20202020;
    private static final String SOFA = "seats 3 layers 5;dig day;";

    public static void main(String[] args) {
        emptyAtFirst();
        fullTape();
        oneByteTooMany();
        refusedFeeds();
        highestByteFirst();
        trimBounds();
        refusedTrims();
        keptBytes();
        emptyBehindTeach();
        lastPosition();
        firstPosition();
        errorAtOfTheLatest();
        Check.finish();
    }

    private static int feedBlanks(SofaDig dig) {
        return dig.feed(BLANKS, BLANKS, BLANKS, BLANKS, BLANKS);
    }

    private static SofaDig fedTimes(int times) {
        SofaDig dig = new SofaDig();
        for (int i = 1; i <= times; i++) {
            Check.same("feed number " + i, feedBlanks(dig), i * 20);
        }
        return dig;
    }

    /** "a row of at most 2000 bytes, at first empty" */
    private static void emptyAtFirst() {
        SofaDig dig = new SofaDig();
        Check.due("trim(1) of a new object", () -> dig.trim(1), Check.ARGUMENT);
        Check.due("trim(0) of a new object", () -> dig.trim(0), 0);
        Check.same("feed of a new object", feedBlanks(dig), 20);
    }

    private static void fullTape() {
        SofaDig dig = fedTimes(99);
        Check.due("feed to 2000", () -> feedBlanks(dig), 2000);
        Check.due("feed to 2020", () -> feedBlanks(dig), Check.STATE);
        Check.due("trim(2000)", () -> dig.trim(2000), 2000);
        Check.due("feed to 2020 again", () -> feedBlanks(dig), Check.STATE);
        Check.due("trim(0) of a full tape", () -> dig.trim(0), 0);
        Check.due("feed of an emptied tape", () -> feedBlanks(dig), 20);
    }

    private static void oneByteTooMany() {
        for (int kept = 1979; kept <= 1982; kept++) {
            SofaDig dig = fedTimes(100);
            Check.same("trim(" + kept + ")", dig.trim(kept), kept);
            Check.due("feed behind " + kept + " bytes", () -> feedBlanks(dig), kept <= 1980 ? kept + 20 : Check.STATE);
        }
    }

    /** Nothing of a refused feed stands on the tape, not even the bytes that would have found room. */
    private static void refusedFeeds() {
        for (int bytes : new int[] {1981, 1990, 1999, 2000}) {
            String what = "feed behind " + bytes + " bytes";
            Twins twins = new Twins().teach(SOFA).both(dig -> dig.passDays(2));
            twins.feed(SOFA + " ".repeat(bytes - SOFA.length()));
            twins.alone(what, dig -> dig.feed(0x64696720, 0x64696720, 0x64696720, 0x64696720, 0x64696720), Check.STATE);
            twins.alike(what).sameTape(what, bytes);
        }
    }

    /** Each byte of a feed has its own place, also behind a number that is below 0. */
    private static void highestByteFirst() {
        for (int place = 0; place < 20; place++) {
            for (int wrong : new int[] {0x23, 0x7f, 0x80, 0xff, 0}) {
                int[] numbers = {BLANKS, BLANKS, BLANKS, BLANKS, BLANKS};
                int shift = 24 - 8 * (place % 4);
                numbers[place / 4] = numbers[place / 4] & ~(255 << shift) | wrong << shift;
                SofaDig dig = new SofaDig();
                dig.feed(numbers[0], numbers[1], numbers[2], numbers[3], numbers[4]);
                Check.same("teach() of the byte " + wrong, dig.teach(), 1);
                Check.same("errorAt() of the byte " + wrong, dig.errorAt(), place);
            }
        }
        SofaDig dig = new SofaDig();
        Check.same("feed", dig.feed(0x73656174, 0x7332206c, 0x61796572, 0x7331303b, 0x64696731), 20);
        Check.same("feed", dig.feed(0x3b707270, BLANKS, BLANKS, BLANKS, BLANKS), 40);
        Check.same("trim(21)", dig.trim(21), 21);
        Check.same("teach() of seats2 layers10;dig1;", dig.teach(), 1);
        Check.same("errorAt() of seats2 layers10;dig1;", dig.errorAt(), 0);
    }

    /** "n is not 0 to the number of bytes of the tape" */
    private static void trimBounds() {
        for (int bytes : new int[] {0, 1, 20, 1999, 2000}) {
            SofaDig dig = new SofaDig();
            Check.feedText(dig, " ".repeat(bytes));
            for (int n : new int[] {bytes + 1, -1, Integer.MAX_VALUE, Integer.MIN_VALUE, 2001}) {
                Check.due("trim(" + n + ") of " + bytes, () -> dig.trim(n), Check.ARGUMENT);
            }
            Check.due("trim(" + bytes + ") of as many", () -> dig.trim(bytes), bytes);
            if (bytes > 0) {
                Check.due("trim(" + (bytes - 1) + ") of " + bytes, () -> dig.trim(bytes - 1), bytes - 1);
                Check.due("trim(" + bytes + ") of " + (bytes - 1), () -> dig.trim(bytes), Check.ARGUMENT);
            }
            Check.due("trim(0) of " + bytes, () -> dig.trim(0), 0);
            Check.due("trim(1) of nothing", () -> dig.trim(1), Check.ARGUMENT);
        }
    }

    private static void refusedTrims() {
        for (int n : new int[] {-1, 26, 2000, 2001, Integer.MIN_VALUE, Integer.MAX_VALUE}) {
            String what = "trim(" + n + ") of 25 bytes";
            Twins twins = new Twins().teach(SOFA).both(dig -> dig.dig(1)).feed("seats 2 layers 9;dig 1+1;");
            twins.alone(what, dig -> dig.trim(n), Check.ARGUMENT).alike(what).sameTape(what, 25);
        }
    }

    /** Bytes that trim cut off do not come back, and what is fed then stands right behind the kept ones. */
    private static void keptBytes() {
        SofaDig dig = new SofaDig();
        Check.feedText(dig, "seats 3 layers 5;#######");
        dig.trim(17);
        Check.same("feed behind 17 bytes", feedBlanks(dig), 37);
        Check.same("teach() of the kept bytes", dig.teach(), 0);
        Check.same("seats() of the kept bytes", dig.seats(), 3);
        Check.feedText(dig, "seats 2 layers 5;");
        dig.trim(14);
        Check.same("feed behind 14 bytes", dig.feed(0x2031303b, BLANKS, BLANKS, BLANKS, BLANKS), 34);
        Check.same("teach() of joined bytes", dig.teach(), 0);
        Check.same("strata() of joined bytes", dig.strata(), 10);
    }

    /** "it is empty behind it", also if it has an error. */
    private static void emptyBehindTeach() {
        String[] texts = {"", SOFA, "dig", "spring in 0,0;spring in 0,0;", "dig first of a;", Texts.empires(7), "seats 9 layers 2;"};
        int[] errors = {0, 0, 1, 2, 3, 4, 5};
        for (int i = 0; i < texts.length; i++) {
            SofaDig dig = new SofaDig();
            Check.same("teach() of " + texts[i], Check.teachText(dig, texts[i]), errors[i]);
            Check.due("trim(1) behind " + texts[i], () -> dig.trim(1), Check.ARGUMENT);
            Check.due("trim(0) behind " + texts[i], () -> dig.trim(0), 0);
            Check.same("teach() of the empty tape", dig.teach(), 0);
            Check.same("seats() of the empty tape", dig.seats(), 4);
        }
        SofaDig full = fedTimes(100);
        Check.same("teach() of a full tape", full.teach(), 0);
        Check.same("feed behind it", feedBlanks(full), 20);
    }

    private static void lastPosition() {
        Check.failsAt(1, 1999, " ".repeat(1999) + "#");
        Check.failsAt(1, 1999, "dig 1" + " ".repeat(1994) + ")");
        Check.failsAt(1, 2000, "dig 1" + " ".repeat(1995));
        Check.failsAt(1, 2000, " ".repeat(1995) + "dig 1");
        Check.holds(" ".repeat(1994) + "dig 1;");
        Check.holds("dig 1" + "\n".repeat(1994) + ";");
        Check.failsAt(5, 1998, "spring in 0," + " ".repeat(1986) + "6;");
        Check.holds("spring in 0," + " ".repeat(1986) + "5;");
    }

    private static void firstPosition() {
        Check.failsAt(1, 0, "#");
        Check.failsAt(1, 0, "seats4 layers 6;");
        Check.failsAt(1, 1, " ;");
        Check.failsAt(4, 96, "dig 1;".repeat(16) + "free 1;");
    }

    /** "of the latest teach(); -1 if it had none, or there was none" */
    private static void errorAtOfTheLatest() {
        SofaDig dig = new SofaDig();
        Check.same("errorAt() ahead of teach()", dig.errorAt(), -1);
        Check.feedText(dig, "dig 1;#");
        Check.same("errorAt() behind feed", dig.errorAt(), -1);
        dig.teach();
        Check.same("errorAt() behind an error", dig.errorAt(), 6);
        Check.feedText(dig, "dig");
        dig.dig(0);
        dig.passDays(1);
        Check.same("errorAt() behind other calls", dig.errorAt(), 6);
        dig.teach();
        Check.same("errorAt() behind another error", dig.errorAt(), 3);
        Check.same("teach() of an empty tape", dig.teach(), 0);
        Check.same("errorAt() behind none", dig.errorAt(), -1);
        Check.same("teach() of an error at 0", Check.teachText(dig, ";"), 1);
        Check.same("errorAt() of an error at 0", dig.errorAt(), 0);
    }
}
