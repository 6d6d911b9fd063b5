/** The edges of the language's sums and tests: "All numbers are whole ..", and what a day's orders reckon. */
public final class SumBoundsTest {
    private static final int MIN = Integer.MIN_VALUE;
    private static final int MAX = Integer.MAX_VALUE;
    private static final String SOFA = "seats 5 layers 6;empire a from 0 to 0;empire b from 999 to 999;empire c from 0 to 999;"
        + "coin in 0,5 year 0;crumbs in 1,5 of b;crumbs in 2,5 of c;";

    public static void main(String[] args) {
        constants();
        wrappingSums();
        wrappingDifferences();
        wrappingProducts();
        wrappingMinus();
        divisions();
        divisionsByNought();
        leastByMinusOne();
        greatestAndLeast();
        comparisons();
        remainders();
        remaindersOfHeight();
        orderOfReckoning();
        andOr();
        day();
        foundAndSlides();
        props();
        firstAndLast();
        height();
        seen();
        sure();
        Check.finish();
    }

    /** Whether the test holds on the first day, behind a dig at the seats 0 and 1. */
    private static boolean says(String test) {
        SofaDig dig = Check.taught(SOFA + "prop 4 when " + test + ";");
        dig.dig(0);
        dig.dig(1);
        dig.passDays(1);
        Check.same("isPropped(4) or not, by " + test, dig.isPropped(4), dig.ordersCarriedOut() == 1);
        return dig.isPropped(4);
    }

    private static void so(String test, boolean due) {
        Check.same(test, says(test), due);
        Check.same("not [" + test + "]", says("not [" + test + "]"), !due);
    }

    private static void is(String sum, int due) {
        so(sum + "=" + Texts.value(due), true);
        so(sum + "<" + Texts.value(due), false);
        so(sum + ">" + Texts.value(due), false);
    }

    private static String v(int number) {
        return Texts.value(number);
    }

    /** What the other tests stand on: the numbers that Texts writes are the ones that are meant. */
    private static void constants() {
        int[] numbers = {0, 1, -1, 99999, 100000, 999999, MAX, MIN, MIN + 1};
        for (int a : numbers) {
            for (int b : numbers) {
                so(v(a) + "=" + v(b), a == b);
                so(v(a) + "<" + v(b), a < b);
            }
        }
        is("999999", 999999);
        is("000000", 0);
        is("000007", 7);
    }

    /** "sums .. wrap around in 32 bits" */
    private static void wrappingSums() {
        is(v(MAX) + "+1", MIN);
        is(v(MAX) + "+0", MAX);
        is(v(MAX - 1) + "+1", MAX);
        is(v(MAX) + "+" + v(MAX), -2);
        is(v(MIN) + "+" + v(MIN), 0);
        is(v(MIN) + "+-1", MAX);
        is(v(MIN) + "+1", MIN + 1);
        is(v(MAX) + "+" + v(MIN), -1);
    }

    private static void wrappingDifferences() {
        is(v(MIN) + "-1", MAX);
        is(v(MIN) + "-0", MIN);
        is(v(MIN + 1) + "-1", MIN);
        is("0-" + v(MIN), MIN);
        is("-1-" + v(MIN), MAX);
        is(v(MAX) + "--1", MIN);
        is(v(MIN) + "-" + v(MAX), 1);
        is(v(MAX) + "-" + v(MIN), -1);
    }

    private static void wrappingProducts() {
        is("65536*65536", 0);
        is("65536*32768", MIN);
        is("65536*32767", 2147418112);
        is("46340*46340", 2147395600);
        is("46341*46341", 46341 * 46341);
        is(v(MAX) + "*2", -2);
        is(v(MIN) + "*2", 0);
        is(v(MIN) + "*-1", MIN);
        is(v(MIN) + "*" + v(MIN), 0);
        is(v(MAX) + "*" + v(MAX), 1);
        is(v(MIN) + "*" + v(MAX), MIN);
        is("999999*999999", 999999 * 999999);
        is("999999*999999*999999", 999999 * 999999 * 999999);
    }

    private static void wrappingMinus() {
        is("-" + v(MIN), MIN);
        is("--" + v(MIN), MIN);
        is("-" + v(MAX), MIN + 1);
        is("-0", 0);
        is("-" + v(MIN + 1), MAX);
    }

    /** "/ is cut towards 0" */
    private static void divisions() {
        for (int left : new int[] {0, 1, 2, 3, 5, 6, 7, 8, MAX}) {
            for (int right : new int[] {1, 2, 3, 4, 7, MAX}) {
                is(v(left) + "/" + v(right), left / right);
                is(v(-left) + "/" + v(right), -(left / right));
                is(v(left) + "/" + v(-right), -(left / right));
                is(v(-left) + "/" + v(-right), left / right);
            }
        }
        is(v(MIN) + "/1", MIN);
        is(v(MIN) + "/2", -1073741824);
        is(v(MIN) + "/-2", 1073741824);
        is(v(MIN) + "/" + v(MIN), 1);
        is(v(MAX) + "/" + v(MIN), 0);
        is(v(MIN) + "/" + v(MAX), -1);
        is("1/2*2", 0);
        is("7/2/2", 1);
        is("-7/2", -3);
    }

    /** "gives 0 with 0 on the right side" */
    private static void divisionsByNought() {
        for (int left : new int[] {0, 1, -1, 999999, MAX, MIN}) {
            is(v(left) + "/0", 0);
            is(v(left) + "/(1-1)", 0);
            is(v(left) + "/-0", 0);
            is(v(left) + "/day", 0);
            is(v(left) + "/(1/2)", 0);
            is("5+" + v(left) + "/0*3", 5);
        }
        digs("dig 3/0;", 0);
        digs("dig 2+3/day;", 2);
    }

    /** "-2147483648 / -1 gives -2147483648" */
    private static void leastByMinusOne() {
        is(v(MIN) + "/-1", MIN);
        is(v(MIN) + "/-1/-1", MIN);
        is(v(MAX) + "/-1", -MAX);
        is(v(MIN + 1) + "/-1", MAX);
        is("(" + v(MAX) + "+1)/(0-1)", MIN);
    }

    private static void greatestAndLeast() {
        int[] numbers = {0, 1, -1, MAX, MIN};
        for (int a : numbers) {
            for (int b : numbers) {
                is("min(" + v(a) + "," + v(b) + ")", Math.min(a, b));
                is("max(" + v(a) + "," + v(b) + ")", Math.max(a, b));
            }
        }
        is("min(1+1,2*2)", 2);
        is("max(1+1,2*2)", 4);
    }

    private static void comparisons() {
        int[] numbers = {0, 1, -1, MAX, MIN};
        for (int a : numbers) {
            for (int b : numbers) {
                so(v(a) + "<" + v(b), a < b);
                so(v(a) + ">" + v(b), a > b);
                so(v(a) + "=" + v(b), a == b);
                so(v(a) + "<=" + v(b), a <= b);
                so(v(a) + ">=" + v(b), a >= b);
            }
        }
    }

    private static void digs(String order, int seat) {
        SofaDig dig = Check.taught("seats 5 layers 6;" + order);
        dig.passDays(1);
        for (int other = 0; other < 5; other++) {
            Check.same("heightOf(" + other + ") behind " + order, dig.heightOf(other), other == seat ? 5 : 6);
        }
    }

    /** "by the remainder of the number of seats, 0 or greater" */
    private static void remainders() {
        for (int sum : new int[] {0, 1, 4, 5, 6, 9, 10, 999999, MAX, -1, -4, -5, -6, -10, -11, MIN, MIN + 1, MIN + 3}) {
            digs("dig " + v(sum) + ";", Math.floorMod(sum, 5));
        }
        for (int seats = 2; seats <= 8; seats++) {
            for (int sum : new int[] {-1, seats, seats - 1, -seats, -seats - 1, MIN, MAX}) {
                SofaDig dig = Check.taught("seats " + seats + " layers 2;prop " + v(sum) + ";");
                dig.passDays(1);
                int propped = Math.floorMod(sum, seats);
                Check.same("isPropped(" + propped + ") of " + seats + " by " + sum, dig.isPropped(propped), true);
                Check.same("props()", dig.props(), 1);
            }
        }
        SofaDig free = Check.taught("seats 5 layers 2;free -1;free " + v(MIN) + ";");
        free.prop(4);
        free.prop(2);
        free.prop(3);
        free.passDays(1);
        Check.same("isPropped(4) behind free -1", free.isPropped(4), false);
        Check.same("isPropped(2) behind free of the least number", free.isPropped(2), false);
        Check.same("isPropped(3) behind both", free.isPropped(3), true);
        Check.same("ordersCarriedOut() behind both", free.ordersCarriedOut(), 2);
    }

    /** "height that of the seat that the sum tells by the remainder likewise" */
    private static void remaindersOfHeight() {
        String high = "seats 5 layers 8;prop 4 when height(";
        for (int sum : new int[] {0, 4, 5, -1, -5, -6, MIN, MIN + 3, MAX, 999999}) {
            SofaDig dig = Check.taught(high + v(sum) + ")=" + (8 - Math.floorMod(sum, 5) / 2) + " and day=0;");
            dig.dig(2);
            dig.dig(3);
            dig.dig(4);
            dig.dig(4);
            dig.passDays(1);
            Check.same("isPropped(4) by the height of " + sum, dig.isPropped(4), true);
        }
    }

    /** Products ahead of sums, and both from left to right. */
    private static void orderOfReckoning() {
        is("2+3*4", 14);
        is("2*3+4", 10);
        is("10-4-3", 3);
        is("10-4+3", 9);
        is("100/7*7", 98);
        is("100*7/3", 233);
        is("24/4/3", 2);
        is("-2*-3", 6);
        is("-(2+3)*4", -20);
        is("-2+3", 1);
        is("1--1", 2);
    }

    /** "and binds more than or, not more than and" */
    private static void andOr() {
        String[] truth = {"1=2", "1=1"};
        for (int bits = 0; bits < 8; bits++) {
            boolean a = (bits & 1) != 0;
            boolean b = (bits & 2) != 0;
            boolean c = (bits & 4) != 0;
            String x = truth[bits & 1];
            String y = truth[bits >> 1 & 1];
            String z = truth[bits >> 2];
            so(x + " or " + y + " and " + z, a || b && c);
            so(x + " and " + y + " or " + z, a && b || c);
            so("[" + x + " or " + y + "] and " + z, (a || b) && c);
            so("not " + x + " and " + y + " or " + z, !a && b || c);
            so("not " + x + " or not " + y + " and not " + z, !a || !b && !c);
            so("not [" + x + " and " + y + "] or " + z, !(a && b) || c);
            so("not not " + x + " and not not not " + y + " or " + z, a && !b || c);
        }
    }

    /** "the number of days that went by": none on the first day, and one greater behind it. */
    private static void day() {
        so("day=0", true);
        SofaDig dig = Check.taught("seats 2 layers 10;dig 0 when day=1;dig 1 when day=61;dig 1 when day=62;");
        dig.passDays(1);
        Check.same("cushionsDug() behind the day 0", dig.cushionsDug(), 0);
        dig.passDays(1);
        Check.same("cushionsDug() behind the day 1", dig.cushionsDug(), 1);
        dig.passDays(30);
        dig.passDays(29);
        Check.same("cushionsDug() behind 61 days", dig.cushionsDug(), 1);
        dig.passDays(1);
        Check.same("heightOf(1) behind 62 days", dig.heightOf(1), 9);
        Check.same("days()", dig.days(), 62);
        dig.passDays(1);
        Check.same("heightOf(1) behind 63 days", dig.heightOf(1), 8);
    }

    private static void foundAndSlides() {
        so("found=2", true);
        so("slides=0", true);
        SofaDig dig = Check.taught("seats 2 layers 6;coin in 0,5 year 1;coin in 0,4 year 1;dig 0 when slides=1;dig 0 when found=1;dig 0 when slides>1;");
        for (int i = 0; i < 3; i++) {
            dig.dig(1);
        }
        dig.passDays(1);
        Check.same("cushionsDug() ahead of a slide", dig.cushionsDug(), 3);
        dig.dig(1);
        Check.same("slides()", dig.slides(), 1);
        dig.passDays(1);
        // The loose coin at the seat 1 is not found yet; the seat 0 gives its other coin, and then one cushion more.
        Check.same("found()", dig.found(), 1);
        Check.same("cushionsDug()", dig.cushionsDug(), 6);
    }

    private static void props() {
        so("props=0", true);
        SofaDig dig = Check.taught("seats 8 layers 2;prop props;prop props;prop props when props=2;prop props when props=3;free 0 when props=3;prop 7 when props=2;");
        dig.passDays(1);
        Check.same("ordersCarriedOut()", dig.ordersCarriedOut(), 5);
        Check.same("isPropped(0)", dig.isPropped(0), false);
        Check.same("isPropped(1)", dig.isPropped(1), true);
        Check.same("isPropped(2)", dig.isPropped(2), true);
        Check.same("isPropped(3)", dig.isPropped(3), false);
        Check.same("isPropped(7)", dig.isPropped(7), true);
    }

    /** "the numbers behind from and to of an empire", whether it is seen or not. */
    private static void firstAndLast() {
        is("first of a", 0);
        is("last of a", 0);
        is("first of b", 999);
        is("last of b", 999);
        is("first of c", 0);
        is("last of c", 999);
        is("-last of c-first of b", -1998);
    }

    private static void height() {
        SofaDig dig = Check.taught("seats 2 layers 3;prop 0 when height(0)=3 and day=0;free 0 when height(0)=0 and height(1)=0;");
        dig.passDays(1);
        Check.same("isPropped(0) of a full seat", dig.isPropped(0), true);
        for (int i = 0; i < 3; i++) {
            dig.dig(0);
            dig.dig(1);
        }
        dig.passDays(1);
        Check.same("isPropped(0) of an empty seat", dig.isPropped(0), false);
    }

    /** "seen holds if an empire is seen in some stratum" */
    private static void seen() {
        so("seen a", false);
        so("seen b", true);
        so("seen c", false);
        for (int stratum = 0; stratum < 6; stratum++) {
            SofaDig dig = Check.taught("empire x from 1 to 2;empire a from 1 to 2;crumbs in 0," + stratum + " of a;"
                + "prop 2 when seen a;prop 3 when seen x;");
            // So that nothing slides onto the crumbs.
            dig.prop(1);
            for (int above = 5; above > stratum; above--) {
                dig.dig(0);
            }
            dig.passDays(1);
            Check.same("props() ahead of the crumbs in " + stratum, dig.props(), 1);
            Check.same("dig(0) of the crumbs in " + stratum, dig.dig(0), 0);
            dig.passDays(1);
            Check.same("isPropped(2) by the crumbs in " + stratum, dig.isPropped(2), true);
            Check.same("isPropped(3) by the crumbs in " + stratum, dig.isPropped(3), false);
        }
    }

    /** "sure if the find whose number the sum tells is there, and sure" */
    private static void sure() {
        so("sure 0", true);
        so("sure 1", true);
        so("sure 2", false);
        for (int find : new int[] {3, 4, 23, 24, 25, 999999, MAX, -1, -2, -3, MIN}) {
            so("sure " + v(find), false);
        }
        so("sure 2-1", true);
        so("sure 1-2", false);
        so("sure 3*0 and sure day", true);
        SofaDig full = Check.taught(Texts.coins(24) + "prop 0 when sure 23;prop 1 when sure 24;prop 2 when sure -1;prop 3 when sure 0;");
        Check.same("dig(3)", full.dig(3), 23);
        full.passDays(1);
        Check.same("isPropped(0) by the last find", full.isPropped(0), true);
        Check.same("props()", full.props(), 1);
        SofaDig loose = Check.taught("seats 2 layers 4;coin in 0,3 year 1;prop 0 when sure 0;prop 1 when found=1;");
        for (int i = 0; i < 5; i++) {
            loose.dig(1);
        }
        loose.passDays(1);
        Check.same("isPropped(0) by an unsure find", loose.isPropped(0), false);
        Check.same("isPropped(1) by an unsure find", loose.isPropped(1), true);
    }
}
