/** The terms' sums, tests and days, as promise 35 lets them be seen: what holds is carried out. */
public final class SumsTest {
    private static final String START = "seats 4 layers 6; empire a from 20 to 300; empire b from 310 to 500;"
        + "coin in 0, 5 year 120; crumbs in 1, 5 of a; crumbs in 2, 0 of b; coin in 3, 5 year 9; spring in 3, 0;";

    public static void main(String[] args) {
        arithmetic();
        tests();
        questions();
        remainders();
        dayOfOrders();
        Check.finish();
    }

    /** Whether a test holds on the first day of a sofa of which the seats 0 and 1 were dug once. */
    private static boolean says(String test) {
        SofaDig dig = Check.taught(START + "dig 2 when " + test + ";");
        dig.dig(0);
        dig.dig(1);
        dig.prop(3);
        dig.passDays(1);
        return dig.ordersCarriedOut() == 1;
    }

    private static void yes(String test) {
        Check.same(test, says(test), true);
        Check.same("not [" + test + "]", says("not [" + test + "]"), false);
    }

    private static void no(String test) {
        Check.same(test, says(test), false);
        Check.same("not [" + test + "]", says("not [" + test + "]"), true);
    }

    private static void arithmetic() {
        yes("2 + 3 * 4 = 14");
        yes("(2 + 3) * 4 = 20");
        yes("10 - 3 - 2 = 5");
        yes("100 / 10 / 5 = 2");
        yes("100 / (10 / 5) = 50");
        yes("7 / 2 = 3");
        yes("-7 / 2 = -3");
        yes("7 / -2 = -3");
        yes("-7 / -2 = 3");
        yes("5 / 0 = 0");
        yes("0 / 0 = 0");
        yes("-5 / (day - day) = 0");
        yes("-2 * 3 = -6");
        yes("3 - -2 = 5");
        yes("--5 = 5");
        yes("-2 - 3 = -5");
        yes("999999 * 999999 = " + positive(999999 * 999999));
        String least = "-(2147 * 999999 + 485795)";
        yes(least + " < 0 and " + least + " - 1 > 0 and -" + least + " = " + least);
        yes(least + " / -1 = " + least);
        yes("2147 * 999999 + 485794 > 0 and 2147 * 999999 + 485795 < 0");
        yes("min(3, -4) = -4 and min(-4, 3) = -4 and max(3, -4) = 3 and max(-4, 3) = 3");
        yes("min(max(1, 2), 5 - 2) = 2");
        yes("000012 = 12");
    }

    /** A number in the language's words: at most 6 digits, and a minus in front. */
    private static String positive(int number) {
        return "(" + number / 100000 + ") * 100000 + (" + number % 100000 + ")";
    }

    private static void tests() {
        yes("1 < 2");
        no("2 < 2");
        yes("2 > 1");
        no("2 > 2");
        yes("2 = 2");
        no("2 = 3");
        yes("2 <= 2");
        no("3 <= 2");
        yes("2 >= 2");
        no("1 >= 2");
        yes("1 = 1 or 1 = 1 and 1 = 2");
        yes("1 = 2 and 1 = 2 or 1 = 1");
        no("[1 = 1 or 1 = 1] and 1 = 2");
        no("not 1 = 2 and 1 = 2");
        yes("not 1 = 1 or 1 = 1");
        yes("not not 1 = 1");
        no("1 = 1 and 1 = 1 and 1 = 2");
        yes("1 = 2 or 1 = 2 or 1 = 1");
        no("1 = 2 or 1 = 2");
    }

    private static void questions() {
        yes("day = 0");
        yes("found = 2");
        yes("slides = 0");
        yes("props = 1");
        yes("first of a = 20 and last of a = 300 and first of b = 310 and last of b = 500");
        yes("height(0) = 5 and height(1) = 5 and height(2) = 6 and height(3) = 6");
        yes("height(4) = 5 and height(-1) = 6 and height(-4) = 5 and height(7) = 6");
        yes("seen a");
        no("seen b");
        yes("sure 0");
        yes("sure 1");
        no("sure 2");
        no("sure 3");
        no("sure 4");
        no("sure -1");
        no("sure 999999 * 999999");
        no("sure -(2147 * 999999 + 485795)");
        yes("sure day");
        yes("sure 2 - 1 and sure 0");
    }

    private static void remainders() {
        int[] sums = {0, 3, 4, 7, 999999};
        int[] seats = {0, 3, 0, 3, 3};
        for (int i = 0; i < sums.length; i++) {
            digs("dig " + sums[i] + ";", seats[i]);
        }
        digs("dig -1;", 3);
        digs("dig -4;", 0);
        digs("dig -5;", 3);
        digs("dig -(2147 * 999999 + 485795);", 0);
        digs("dig -(2147 * 999999 + 485794);", 1);
        SofaDig props = Check.taught("seats 3 layers 4; prop -1; prop 4; free 2 + 3;");
        props.passDays(1);
        Check.same("isPropped(1)", props.isPropped(1), true);
        Check.same("isPropped(2)", props.isPropped(2), false);
        Check.same("ordersCarriedOut()", props.ordersCarriedOut(), 3);
    }

    private static void digs(String order, int seat) {
        SofaDig dig = Check.taught(order);
        dig.passDays(1);
        for (int other = 0; other < 4; other++) {
            Check.same(order + " at the seat " + other, dig.heightOf(other), other == seat ? 5 : 6);
        }
    }

    /** Tests and sums are reckoned as an order comes to its turn, and not ahead of it. */
    private static void dayOfOrders() {
        SofaDig dig = Check.taught("coin in 0, 5 year 1; dig 0 when found = 0; dig 1 when found = 1; dig 2 when found = 2; dig found + 2;"
            + " prop 1 when height(1) = 5 and day = 0; prop props when props = 1; prop 1; free 0 when props = 0;");
        Check.same("passDays(1)", dig.passDays(1), 1);
        Check.same("heights", dig.heightOf(0) * 1000 + dig.heightOf(1) * 100 + dig.heightOf(2) * 10 + dig.heightOf(3), 5565);
        // dig 0, dig 1, dig 3, prop 1; the seat 1 has its prop already when "prop props" and "prop 1" come.
        Check.same("ordersCarriedOut()", dig.ordersCarriedOut(), 4);
        Check.same("props()", dig.props(), 1);
        SofaDig bare = Check.taught("seats 2 layers 2; dig 0; dig 0; dig 0; free 1; prop 0; prop 0;");
        bare.passDays(1);
        Check.same("orders that do something", bare.ordersCarriedOut(), 3);
        bare.passDays(1);
        Check.same("orders that do something on the second day", bare.ordersCarriedOut(), 3);
        SofaDig four = Check.taught("seats 5 layers 4; prop 0; prop 1; prop 2; prop 3; free 1; prop 3;");
        four.passDays(1);
        Check.same("props()", four.props(), 3);
        Check.same("isPropped(3)", four.isPropped(3), true);
        Check.same("ordersCarriedOut() of props", four.ordersCarriedOut(), 5);
    }
}
