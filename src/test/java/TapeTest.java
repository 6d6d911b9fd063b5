/** Promises 2 and 3: feed and trim. */
public final class TapeTest {
    public static void main(String[] args) {
        order();
        fullTape();
        trimming();
        bytesThatBeginNoToken();
        emptyBehindTeach();
        Check.finish();
    }

    /** "seats 3 layers 5 ;  ": each number's bytes, the highest one first. */
    private static void order() {
        SofaDig dig = new SofaDig();
        Check.same("feed", dig.feed(0x73656174, 0x73203320, 0x6c617965, 0x72732035, 0x203b2020), 20);
        Check.same("teach()", dig.teach(), 0);
        Check.same("seats()", dig.seats(), 3);
        Check.same("strata()", dig.strata(), 5);
    }

    private static void fullTape() {
        SofaDig dig = new SofaDig();
        for (int bytes = 20; bytes <= 2000; bytes += 20) {
            Check.same("feed", dig.feed(0x20202020, 0x20202020, 0x20202020, 0x20202020, 0x20202020), bytes);
        }
        Check.due("feed to 2020", () -> dig.feed(1, 2, 3, 4, 5), Check.STATE);
        Check.same("trim(2000)", dig.trim(2000), 2000);
        Check.same("trim(1981)", dig.trim(1981), 1981);
        Check.due("feed to 2001", () -> dig.feed(1, 2, 3, 4, 5), Check.STATE);
        Check.due("trim(1982) behind it", () -> dig.trim(1982), Check.ARGUMENT);
        Check.same("trim(1980)", dig.trim(1980), 1980);
        Check.due("feed to 2000", () -> dig.feed(0x20202020, 0x20202020, 0x20202020, 0x20202020, 0x0a0a0a0a), 2000);
        Check.same("teach() of 2000 blanks", dig.teach(), 0);
        Check.same("errorAt()", dig.errorAt(), -1);
    }

    private static void trimming() {
        SofaDig dig = new SofaDig();
        Check.due("trim(1) of nothing", () -> dig.trim(1), Check.ARGUMENT);
        Check.due("trim(0) of nothing", () -> dig.trim(0), 0);
        Check.feedText(dig, "dig 1; dig;");
        for (int n : new int[] {-1, 12, Integer.MIN_VALUE, Integer.MAX_VALUE}) {
            Check.due("trim(" + n + ") of 11 bytes", () -> dig.trim(n), Check.ARGUMENT);
        }
        Check.due("trim(11) of 11 bytes", () -> dig.trim(11), 11);
        Check.due("trim(6) of 11 bytes", () -> dig.trim(6), 6);
        Check.due("trim(7) of 6 bytes", () -> dig.trim(7), Check.ARGUMENT);
        Check.same("feed", dig.feed(0x20202020, 0x20202020, 0x20202020, 0x20202020, 0x2020203b), 26);
        Check.same("teach() of what was kept", dig.teach(), 1);
        Check.same("errorAt()", dig.errorAt(), 25);
    }

    private static void bytesThatBeginNoToken() {
        int[] words = {-1, 0, 0x20200000, 0x20208080, 0x09202020, 0x0d202020, 0x20204120};
        int[] places = {0, 0, 2, 2, 0, 0, 2};
        for (int i = 0; i < words.length; i++) {
            SofaDig dig = new SofaDig();
            dig.feed(words[i], 0x20202020, 0x20202020, 0x20202020, 0x20202020);
            Check.same("teach() of " + words[i], dig.teach(), 1);
            Check.same("errorAt() of " + words[i], dig.errorAt(), places[i]);
        }
    }

    private static void emptyBehindTeach() {
        SofaDig dig = new SofaDig();
        for (String text : new String[] {"dig 1;", "dig", "dig 1 when seen e;"}) {
            Check.teachText(dig, text);
            Check.due("trim(1) behind teach()", () -> dig.trim(1), Check.ARGUMENT);
            Check.same("feed behind teach()", dig.feed(0, 0, 0, 0, 0), 20);
            Check.same("trim(0)", dig.trim(0), 0);
        }
    }
}
