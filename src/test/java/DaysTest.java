/** Promises 9, 10, 35 to 39 and 41: days, what would be, and the checksum. */
public final class DaysTest {
    public static void main(String[] args) {
        days();
        wrongDays();
        untilFound();
        wouldSlide();
        bestDig();
        nothingIsChanged();
        digest();
        Check.finish();
    }

    private static void days() {
        SofaDig dig = Check.taught("seats 2 layers 6; coin in 0, 5 year 1; coin in 0, 3 year 2; coin in 1, 5 year 3; dig 0; dig 1 when day = 2;");
        Check.same("foundAfter(1)", dig.foundAfter(1), 1);
        Check.same("foundAfter(3)", dig.foundAfter(3), 3);
        Check.same("passDays(1)", dig.passDays(1), 1);
        Check.same("days()", dig.days(), 1);
        Check.same("ordersCarriedOut()", dig.ordersCarriedOut(), 1);
        Check.same("foundAfter(1) counts those of before", dig.foundAfter(1), 1);
        Check.same("passDays(2)", dig.passDays(2), 2);
        Check.same("days()", dig.days(), 3);
        Check.same("ordersCarriedOut()", dig.ordersCarriedOut(), 4);
        Check.same("found()", dig.found(), 3);
        Check.same("cushionsDug()", dig.cushionsDug(), 4);
        Check.same("passDays(30)", dig.passDays(30), 0);
        Check.same("days()", dig.days(), 33);
        // 3, 5 at first; then each dig of the seat 0 makes cushions slide until both are empty.
        Check.same("heightOf(0)", dig.heightOf(0), 0);
        Check.same("foundAfter(30)", dig.foundAfter(30), 3);
    }

    private static void wrongDays() {
        SofaDig dig = Check.taught("dig 0;");
        for (int days : new int[] {0, -1, 31, Integer.MIN_VALUE, Integer.MAX_VALUE}) {
            Check.due("passDays(" + days + ")", () -> dig.passDays(days), Check.ARGUMENT);
            Check.due("foundAfter(" + days + ")", () -> dig.foundAfter(days), Check.ARGUMENT);
        }
        Check.same("days()", dig.days(), 0);
        Check.same("cushionsDug()", dig.cushionsDug(), 0);
        Check.due("passDays(1)", () -> dig.passDays(1), 0);
        Check.due("passDays(30)", () -> dig.passDays(30), 0);
    }

    private static void untilFound() {
        SofaDig dig = Check.taught("seats 2 layers 6; coin in 0, 5 year 1; coin in 1, 5 year 3; coin in 0, 4 year 2; coin in 1, 0 year 9;"
            + "coin in 1, 4 year 9; dig 0 when day = 0; dig 1 when day = 29; dig 1 when day = 30;");
        Check.same("daysUntilFound(0)", dig.daysUntilFound(0), 1);
        Check.same("daysUntilFound(1) on the 30th day", dig.daysUntilFound(1), 30);
        Check.same("daysUntilFound(2)", dig.daysUntilFound(2), -1);
        Check.same("daysUntilFound(4) on the 31st day", dig.daysUntilFound(4), -1);
        Check.same("dig(0)", dig.dig(0), 0);
        Check.same("daysUntilFound(0)", dig.daysUntilFound(0), 0);
        Check.same("daysUntilFound(2)", dig.daysUntilFound(2), 1);
        dig.passDays(1);
        Check.same("daysUntilFound(1)", dig.daysUntilFound(1), 29);
        Check.same("daysUntilFound(4)", dig.daysUntilFound(4), 30);
        Check.same("daysUntilFound(3)", dig.daysUntilFound(3), -1);
        Check.same("days()", dig.days(), 1);
    }

    private static void wouldSlide() {
        SofaDig dig = Check.taught("seats 3 layers 6;");
        for (int i = 0; i < 3; i++) {
            Check.same("wouldSlide(1)", dig.wouldSlide(1), 0);
            dig.dig(1);
        }
        Check.same("wouldSlide(0)", dig.wouldSlide(0), 0);
        // 6, 2, 6: one from the seat 0, and the seat 2 is no more than 3 higher then.
        Check.same("wouldSlide(1)", dig.wouldSlide(1), 1);
        Check.same("wouldSlide(2)", dig.wouldSlide(2), 0);
        dig.prop(0);
        Check.same("wouldSlide(1) with a prop at 0", dig.wouldSlide(1), 1);
        dig.prop(2);
        Check.same("wouldSlide(1) with both propped", dig.wouldSlide(1), 0);
        Check.same("slides()", dig.slides(), 0);
        Check.same("heightOf(1)", dig.heightOf(1), 3);
    }

    private static void bestDig() {
        SofaDig dig = Check.taught("seats 3 layers 6; coin in 2, 0 year 1; coin in 2, 1 year 1; coin in 1, 0 year 1; coin in 1, 1 year 1; coin in 1, 2 year 3;");
        Check.same("bestDig() by finds", dig.bestDig(), 1);
        dig.dig(1);
        dig.dig(1);
        Check.same("bestDig() by finds", dig.bestDig(), 1);
        dig.dig(1);
        Check.same("bestDig() by slides", dig.bestDig(), 2);
        SofaDig two = Check.taught("seats 4 layers 4; coin in 3, 0 year 1; coin in 1, 3 year 1;");
        Check.same("bestDig() of two by number", two.bestDig(), 1);
        two.dig(1);
        Check.same("bestDig() by finds that are left", two.bestDig(), 3);
        SofaDig small = Check.taught("seats 2 layers 2;");
        Check.same("bestDig()", small.bestDig(), 0);
        small.dig(0);
        small.dig(0);
        Check.same("bestDig() of seats with a cushion", small.bestDig(), 1);
        small.dig(1);
        small.dig(1);
        Check.same("bestDig() of none", small.bestDig(), -1);
        Check.same("cushionsDug()", small.cushionsDug(), 4);
    }

    private static void nothingIsChanged() {
        SofaDig dig = Check.taught("seats 3 layers 9; empire a from 3 to 4; coin in 1, 7 year 5; crumbs in 0, 8 of a; spring in 0, 6;"
            + "dig 1; dig 0 when slides > 2; prop 2 when day = 1; free 2 when day = 3;");
        dig.passDays(4);
        dig.prop(0);
        long digest = dig.digest();
        dig.foundAfter(30);
        dig.daysUntilFound(1);
        dig.wouldSlide(1);
        dig.bestDig();
        dig.meanYear();
        Check.same("digest() behind questions", dig.digest(), digest);
        Check.same("days()", dig.days(), 4);
        Check.same("isPropped(0)", dig.isPropped(0), true);
        Check.same("isTopLoose(1)", dig.isTopLoose(1), true);
    }

    private static void digest() {
        SofaDig dig = Check.taught("seats 2 layers 2; empire a from 5 to 6; empire b from 7 to 8; coin in 0, 1 year 9; crumbs in 1, 1 of b; crumbs in 0, 0 of a; dig 1;");
        reckoned(dig, 2, 2, 3, 0, 0, 0, 0, 0, 0, 0, 2, 0, 2, 1, 2, 0, 1, 1, 0, 0, 0, 0, 0, 0, -1, 0, -1, 0);
        dig.prop(0);
        dig.dig(0);
        dig.dig(0);
        dig.passDays(1);
        reckoned(dig, 2, 2, 3, 1, 1, 3, 0, 3, 3, 1, 0, 1, 0, -1, 1, 0, 0, 0, 1, 1, 1, 1, 1, 1, 5, 0, 9, 0);
        SofaDig loose = Check.taught("seats 2 layers 4; empire a from 5 to 6; empire b from 7 to 8; coin in 0, 3 year 9; crumbs in 0, 2 of a;");
        for (int i = 0; i < 5; i++) {
            loose.dig(1);
        }
        // 4, 1 and 4, 0 let the coin slide, and it is found there: 3, 0.
        reckoned(loose, 2, 4, 2, 0, 0, 5, 1, 1, 0, 0, 3, 0, 1, 2, 0, 0, 0, -1, 1, 0, 0, 0, -1, 0, -1, 0, -1, 0, -1, 0);
        SofaDig mixed = Check.taught("seats 2 layers 2; empire a from 5 to 6; empire b from 7 to 8; crumbs in 0, 1 of b; crumbs in 1, 1 of a;");
        mixed.dig(0);
        mixed.dig(1);
        reckoned(mixed, 2, 2, 2, 0, 0, 2, 0, 2, 2, 0, 1, 0, 0, 0, 1, 0, 0, 0, 1, 1, 1, 1, -1, 0, 7, 1);
    }

    private static void reckoned(SofaDig dig, int... numbers) {
        long d = 1021;
        for (int x : numbers) {
            d = d * 31 + x;
        }
        Check.same("digest()", dig.digest(), d);
    }
}
