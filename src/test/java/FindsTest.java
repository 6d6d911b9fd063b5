/** Promises 22 to 31 and 40: finds, strata and the mean year. */
public final class FindsTest {
    private static final String SOFA = "seats 3 layers 6; empire a from 100 to 200; empire b from 201 to 300; empire c from 200 to 250;"
        + "coin in 0, 5 year 150; crumbs in 1, 5 of a; crumbs in 2, 5 of b; crumbs in 0, 4 of c; crumbs in 1, 4 of a;"
        + "coin in 2, 3 year 999; coin in 2, 4 year 0; coin in 2, 0 year 4;";

    public static void main(String[] args) {
        told();
        finding();
        years();
        empires();
        unsure();
        wrongFinds();
        wrongStrata();
        Check.finish();
    }

    private static void told() {
        SofaDig dig = Check.taught(SOFA);
        boolean[] coins = {true, false, false, false, false, true, true, true};
        int[] strata = {5, 5, 5, 4, 4, 3, 4, 0};
        int[] details = {150, 0, 1, 2, 0, 999, 0, 4};
        int[] above = {0, 0, 0, 1, 1, 2, 1, 5};
        for (int find = 0; find < 8; find++) {
            int f = find;
            Check.same("isCoin(" + find + ")", dig.isCoin(find), coins[find]);
            Check.same("isFound(" + find + ")", dig.isFound(find), false);
            Check.due("isSure(" + find + ")", () -> Check.bit(dig.isSure(f)), Check.STATE);
            Check.same("stratumOf(" + find + ")", dig.stratumOf(find), strata[find]);
            Check.due("yearOf(" + find + ")", () -> dig.yearOf(f), coins[find] ? details[find] : Check.STATE);
            Check.due("empireOf(" + find + ")", () -> dig.empireOf(f), coins[find] ? Check.STATE : details[find]);
            Check.same("buriedUnder(" + find + ")", dig.buriedUnder(find), above[find]);
        }
        Check.same("meanYear()", dig.meanYear(), 0.0);
    }

    private static void finding() {
        SofaDig dig = Check.taught(SOFA);
        Check.same("dig(2)", dig.dig(2), 2);
        Check.same("isFound(2)", dig.isFound(2), true);
        Check.same("isFound(6)", dig.isFound(6), false);
        Check.same("isSure(2)", dig.isSure(2), true);
        Check.due("buriedUnder(2)", () -> dig.buriedUnder(2), Check.STATE);
        Check.same("buriedUnder(6)", dig.buriedUnder(6), 0);
        Check.same("buriedUnder(7)", dig.buriedUnder(7), 4);
        Check.same("stratumOf(2)", dig.stratumOf(2), 5);
        Check.same("empireOf(2)", dig.empireOf(2), 1);
        Check.due("yearOf(2)", () -> dig.yearOf(2), Check.STATE);
    }

    private static void years() {
        SofaDig dig = Check.taught(SOFA);
        Check.same("dig(2) of b's crumbs", dig.dig(2), 2);
        notBefore(dig, -1, -1, -1, -1, -1, 201);
        Check.same("dig(2) of the coin of 0", dig.dig(2), 6);
        notBefore(dig, -1, -1, -1, -1, 0, 201);
        Check.same("meanYear()", dig.meanYear(), 0.0);
        Check.same("dig(0) of the coin of 150", dig.dig(0), 0);
        notBefore(dig, -1, -1, -1, -1, 0, 201);
        Check.same("meanYear()", dig.meanYear(), 75.0);
        Check.same("dig(0) of c's crumbs", dig.dig(0), 3);
        notBefore(dig, -1, -1, -1, -1, 200, 201);
        Check.same("dig(2) of the coin of 999", dig.dig(2), 5);
        notBefore(dig, -1, -1, -1, 999, 999, 999);
        Check.same("meanYear()", dig.meanYear(), 383.0);
        SofaDig thirds = Check.taught("coin in 0, 5 year 1; coin in 1, 5 year 1; coin in 2, 5 year 2;");
        thirds.dig(0);
        thirds.dig(1);
        thirds.dig(2);
        Check.same("meanYear() of thirds", thirds.meanYear(), 4.0 / 3.0);
    }

    private static void notBefore(SofaDig dig, int... due) {
        for (int stratum = 0; stratum < due.length; stratum++) {
            Check.same("notBefore(" + stratum + ")", dig.notBefore(stratum), due[stratum]);
        }
    }

    private static void empires() {
        SofaDig dig = Check.taught(SOFA);
        Check.same("isSeenIn(5, 0)", dig.isSeenIn(5, 0), false);
        dig.dig(1);
        Check.same("isSeenIn(5, 0)", dig.isSeenIn(5, 0), true);
        Check.same("isSeenIn(4, 0)", dig.isSeenIn(4, 0), false);
        Check.same("isSeenIn(5, 1)", dig.isSeenIn(5, 1), false);
        Check.same("isMixed(5)", dig.isMixed(5), false);
        dig.dig(2);
        Check.same("isSeenIn(5, 1)", dig.isSeenIn(5, 1), true);
        // a ended in 200, and b began in 201.
        Check.same("isMixed(5)", dig.isMixed(5), true);
        Check.same("isMixed(4)", dig.isMixed(4), false);
        dig.dig(0);
        dig.dig(0);
        dig.dig(1);
        Check.same("isSeenIn(4, 0)", dig.isSeenIn(4, 0), true);
        Check.same("isSeenIn(4, 2)", dig.isSeenIn(4, 2), true);
        // c began in the year in which a ended.
        Check.same("isMixed(4)", dig.isMixed(4), false);
    }

    private static void unsure() {
        SofaDig dig = Check.taught("seats 2 layers 6; empire a from 1 to 2; empire b from 3 to 4;"
            + "coin in 0, 5 year 70; crumbs in 0, 4 of a; crumbs in 1, 4 of b; coin in 0, 3 year 20; dig 1 when seen a; dig 1 when sure 0;");
        for (int i = 0; i < 4; i++) {
            dig.dig(1);
        }
        Check.same("heights", dig.heightOf(0) * 10 + dig.heightOf(1), 53);
        Check.same("buriedUnder(0)", dig.buriedUnder(0), 0);
        Check.same("buriedUnder(1)", dig.buriedUnder(1), 0);
        Check.same("stratumOf(0)", dig.stratumOf(0), 5);
        Check.same("dig(1) of the loose coin", dig.dig(1), 0);
        Check.same("isFound(0)", dig.isFound(0), true);
        Check.same("isSure(0)", dig.isSure(0), false);
        Check.same("found()", dig.found(), 2);
        Check.same("sureFinds()", dig.sureFinds(), 1);
        Check.same("notBefore(5)", dig.notBefore(5), 3);
        Check.same("meanYear()", dig.meanYear(), 0.0);
        Check.same("dig(1)", dig.dig(1), -1);
        Check.same("slides()", dig.slides(), 2);
        Check.same("dig(1) of the loose crumbs", dig.dig(1), 1);
        Check.same("isSure(1)", dig.isSure(1), false);
        Check.same("isSeenIn(4, 0)", dig.isSeenIn(4, 0), false);
        Check.same("isSeenIn(4, 1)", dig.isSeenIn(4, 1), true);
        Check.same("isMixed(4)", dig.isMixed(4), false);
        dig.passDays(1);
        Check.same("ordersCarriedOut()", dig.ordersCarriedOut(), 0);
    }

    private static void wrongFinds() {
        SofaDig dig = Check.taught("coin in 0, 5 year 70; coin in 0, 4 year 70;");
        for (int find : new int[] {-1, 2, Integer.MIN_VALUE, Integer.MAX_VALUE}) {
            Check.due("isCoin(" + find + ")", () -> Check.bit(dig.isCoin(find)), Check.INDEX);
            Check.due("isFound(" + find + ")", () -> Check.bit(dig.isFound(find)), Check.INDEX);
            Check.due("isSure(" + find + ")", () -> Check.bit(dig.isSure(find)), Check.INDEX);
            Check.due("stratumOf(" + find + ")", () -> dig.stratumOf(find), Check.INDEX);
            Check.due("yearOf(" + find + ")", () -> dig.yearOf(find), Check.INDEX);
            Check.due("empireOf(" + find + ")", () -> dig.empireOf(find), Check.INDEX);
            Check.due("buriedUnder(" + find + ")", () -> dig.buriedUnder(find), Check.INDEX);
            Check.due("daysUntilFound(" + find + ")", () -> dig.daysUntilFound(find), Check.INDEX);
        }
    }

    private static void wrongStrata() {
        SofaDig dig = Check.taught("seats 3 layers 5; empire a from 1 to 2; empire b from 1 to 2;");
        for (int stratum : new int[] {-1, 5, Integer.MIN_VALUE, Integer.MAX_VALUE}) {
            Check.due("notBefore(" + stratum + ")", () -> dig.notBefore(stratum), Check.INDEX);
            Check.due("isMixed(" + stratum + ")", () -> Check.bit(dig.isMixed(stratum)), Check.INDEX);
            Check.due("isSeenIn(" + stratum + ", 0)", () -> Check.bit(dig.isSeenIn(stratum, 0)), Check.INDEX);
        }
        for (int empire : new int[] {-1, 2, Integer.MIN_VALUE, Integer.MAX_VALUE}) {
            Check.due("isSeenIn(0, " + empire + ")", () -> Check.bit(dig.isSeenIn(0, empire)), Check.INDEX);
        }
        Check.same("isSeenIn(4, 1)", dig.isSeenIn(4, 1), false);
        Check.same("notBefore(4)", dig.notBefore(4), -1);
    }
}
