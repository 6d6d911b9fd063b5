import java.math.BigInteger;

/** The edges of finds, of "Strata", of the mean year and of the checksum: promises 13, 14, 21 to 31, 40, 41. */
public final class StrataBoundsTest {
    public static void main(String[] args) {
        sureAndUnsure();
        noYear();
        yearNought();
        greatestYear();
        ofThisAndLowerOnes();
        sureOnesOnly();
        seenInItsStratum();
        endedAhead();
        mixedBySureOnes();
        onlyOneEmpire();
        mixedInOneStratum();
        mostEmpires();
        meanOfNone();
        meanYears();
        buried();
        checksumWraps();
        checksumOfEmptySeats();
        Check.finish();
    }

    /** "sure, if it was found in a cushion that was not loose, unsure, if in a loose one" */
    private static void sureAndUnsure() {
        SofaDig dig = Check.taught("seats 2 layers 4;coin in 0,3 year 5;coin in 0,2 year 6;");
        for (int i = 0; i < 4; i++) {
            dig.dig(1);
        }
        Check.due("isSure(0) ahead of it", () -> Check.bit(dig.isSure(0)), Check.STATE);
        Check.same("dig(1)", dig.dig(1), 0);
        Check.same("dig(0)", dig.dig(0), 1);
        Check.due("isSure(0)", () -> Check.bit(dig.isSure(0)), 0);
        Check.due("isSure(1)", () -> Check.bit(dig.isSure(1)), 1);
        Check.same("isFound(0)", dig.isFound(0), true);
        Check.same("found()", dig.found(), 2);
        Check.same("sureFinds()", dig.sureFinds(), 1);
        Check.due("buriedUnder(0) of a found one", () -> dig.buriedUnder(0), Check.STATE);
    }

    private static void years(String what, SofaDig dig, int... due) {
        for (int stratum = 0; stratum < due.length; stratum++) {
            Check.same("notBefore(" + stratum + ") " + what, dig.notBefore(stratum), due[stratum]);
        }
    }

    /** "there is none, if none of these was found": -1 */
    private static void noYear() {
        SofaDig dig = Check.taught("seats 2 layers 3;empire a from 5 to 6;coin in 0,2 year 9;crumbs in 1,2 of a;");
        years("of none found", dig, -1, -1, -1);
        years("of no finds", new SofaDig(), -1, -1, -1, -1, -1, -1);
    }

    /** The year 0 is a year: not the same as none. */
    private static void yearNought() {
        SofaDig dig = Check.taught("seats 2 layers 3;empire a from 0 to 6;coin in 0,2 year 0;crumbs in 1,1 of a;");
        dig.dig(0);
        years("of a coin of 0", dig, -1, -1, 0);
        dig.dig(1);
        dig.dig(1);
        years("of crumbs of 0", dig, -1, 0, 0);
    }

    private static void greatestYear() {
        SofaDig dig = Check.taught("seats 3 layers 2;empire a from 999 to 999;empire b from 998 to 999;coin in 0,1 year 999;crumbs in 1,1 of a;crumbs in 2,1 of b;");
        dig.dig(2);
        years("of crumbs of 998", dig, -1, 998);
        dig.dig(1);
        years("of crumbs of 999", dig, -1, 999);
        dig.dig(0);
        years("of a coin of 999", dig, -1, 999);
    }

    /** "those of sure coins of this stratum and of lower ones", not of higher ones, and the greatest of them. */
    private static void ofThisAndLowerOnes() {
        SofaDig dig = Check.taught("seats 2 layers 5;empire a from 30 to 900;empire b from 20 to 25;"
            + "coin in 0,4 year 10;coin in 0,3 year 40;crumbs in 0,2 of a;crumbs in 0,1 of b;coin in 0,0 year 0;");
        dig.prop(1);
        dig.dig(0);
        years("of one", dig, -1, -1, -1, -1, 10);
        dig.dig(0);
        years("of two", dig, -1, -1, -1, 40, 40);
        dig.dig(0);
        years("of three", dig, -1, -1, 30, 40, 40);
        dig.dig(0);
        years("of four", dig, -1, 20, 30, 40, 40);
        dig.dig(0);
        years("of five", dig, 0, 20, 30, 40, 40);
    }

    private static void sureOnesOnly() {
        SofaDig dig = Check.taught("seats 2 layers 4;empire a from 7 to 8;coin in 0,3 year 5;crumbs in 0,2 of a;");
        for (int i = 0; i < 5; i++) {
            dig.dig(1);
        }
        Check.same("found()", dig.found(), 1);
        years("of an unsure coin", dig, -1, -1, -1, -1);
        Check.same("meanYear() of an unsure coin", dig.meanYear(), 0.0);
        dig.dig(0);
        years("of sure crumbs", dig, -1, -1, 7, 7);
    }

    /** "seen in a stratum, if sure crumbs of it were found in a cushion of it" */
    private static void seenInItsStratum() {
        SofaDig dig = Check.taught("seats 2 layers 3;empire a from 1 to 2;empire b from 1 to 2;crumbs in 0,1 of b;coin in 1,1 year 1;");
        for (int i = 0; i < 2; i++) {
            dig.dig(0);
            dig.dig(1);
        }
        for (int stratum = 0; stratum < 3; stratum++) {
            Check.same("isSeenIn(" + stratum + ", 0)", dig.isSeenIn(stratum, 0), false);
            Check.same("isSeenIn(" + stratum + ", 1)", dig.isSeenIn(stratum, 1), stratum == 1);
        }
        Check.due("isSeenIn(0, 2)", () -> Check.bit(dig.isSeenIn(0, 2)), Check.INDEX);
        Check.due("isSeenIn(3, 0)", () -> Check.bit(dig.isSeenIn(3, 0)), Check.INDEX);
    }

    private static boolean mixedBy(String first, String second) {
        SofaDig dig = Check.taught("seats 2 layers 2;empire a from " + first + ";empire b from " + second + ";crumbs in 0,1 of a;crumbs in 1,1 of b;");
        dig.dig(0);
        Check.same("isMixed(1) by one", dig.isMixed(1), false);
        dig.dig(1);
        Check.same("isMixed(0)", dig.isMixed(0), false);
        return dig.isMixed(1);
    }

    /** "one ended (its year behind to) ahead of the year behind from of the other one" */
    private static void endedAhead() {
        Check.same("ended a year ahead", mixedBy("1 to 5", "6 to 9"), true);
        Check.same("ended in the same year", mixedBy("1 to 6", "6 to 9"), false);
        Check.same("ended a year behind", mixedBy("1 to 7", "6 to 9"), false);
        Check.same("the other one a year ahead", mixedBy("6 to 9", "1 to 5"), true);
        Check.same("the other one in the same year", mixedBy("6 to 9", "1 to 6"), false);
        Check.same("the other one within", mixedBy("1 to 9", "3 to 4"), false);
        Check.same("both the same", mixedBy("3 to 4", "3 to 4"), false);
        Check.same("single years", mixedBy("0 to 0", "1 to 1"), true);
        Check.same("the same single year", mixedBy("0 to 0", "0 to 0"), false);
        Check.same("the greatest years", mixedBy("998 to 998", "999 to 999"), true);
        Check.same("the least and the greatest", mixedBy("0 to 999", "999 to 999"), false);
    }

    private static void mixedBySureOnes() {
        SofaDig dig = Check.taught("seats 2 layers 4;empire a from 1 to 2;empire b from 3 to 4;crumbs in 0,3 of a;crumbs in 1,3 of b;");
        for (int i = 0; i < 5; i++) {
            dig.dig(1);
        }
        Check.same("found()", dig.found(), 2);
        Check.same("sureFinds()", dig.sureFinds(), 1);
        Check.same("isSeenIn(3, 0)", dig.isSeenIn(3, 0), false);
        Check.same("isSeenIn(3, 1)", dig.isSeenIn(3, 1), true);
        Check.same("isMixed(3)", dig.isMixed(3), false);
    }

    /** "if two empires are seen in it": crumbs of one alone, however many, are no mixture. */
    private static void onlyOneEmpire() {
        SofaDig dig = Check.taught("seats 2 layers 2;empire a from 1 to 2;empire b from 3 to 4;crumbs in 0,1 of a;crumbs in 1,1 of a;coin in 0,0 year 9;");
        dig.dig(0);
        dig.dig(1);
        dig.dig(0);
        Check.same("isMixed(1)", dig.isMixed(1), false);
        Check.same("isMixed(0)", dig.isMixed(0), false);
    }

    /** Two empires of two strata mix neither. */
    private static void mixedInOneStratum() {
        SofaDig dig = Check.taught("seats 2 layers 2;empire a from 1 to 2;empire b from 3 to 4;crumbs in 0,1 of a;crumbs in 1,0 of b;crumbs in 0,0 of a;");
        dig.dig(0);
        dig.dig(1);
        dig.dig(1);
        Check.same("isMixed(0)", dig.isMixed(0), false);
        Check.same("isMixed(1)", dig.isMixed(1), false);
        dig.dig(0);
        Check.same("isMixed(0) behind the third", dig.isMixed(0), true);
        Check.same("isMixed(1) behind the third", dig.isMixed(1), false);
    }

    private static void mostEmpires() {
        SofaDig dig = Check.taught("seats 2 layers 2;empire a from 5 to 9;empire b from 5 to 9;empire c from 5 to 9;empire d from 5 to 9;"
            + "empire e from 10 to 11;empire f from 1 to 9;crumbs in 0,1 of e;crumbs in 1,1 of f;crumbs in 0,0 of e;crumbs in 1,0 of d;");
        dig.dig(0);
        dig.dig(1);
        Check.same("isMixed(1) of the last two", dig.isMixed(1), true);
        Check.same("isSeenIn(1, 5)", dig.isSeenIn(1, 5), true);
        dig.dig(0);
        dig.dig(1);
        Check.same("isMixed(0)", dig.isMixed(0), true);
        Check.due("isSeenIn(0, 6)", () -> Check.bit(dig.isSeenIn(0, 6)), Check.INDEX);
    }

    /** "0 without any": neither coins that were not found, nor crumbs, nor unsure coins count. */
    private static void meanOfNone() {
        Check.same("meanYear() of a new object", new SofaDig().meanYear(), 0.0);
        SofaDig dig = Check.taught("seats 2 layers 2;empire a from 7 to 8;coin in 0,0 year 9;crumbs in 0,1 of a;");
        Check.same("meanYear() of none found", dig.meanYear(), 0.0);
        dig.dig(0);
        Check.same("meanYear() of crumbs", dig.meanYear(), 0.0);
        dig.dig(0);
        Check.same("meanYear() of one", dig.meanYear(), 9.0);
    }

    private static void meanYears() {
        SofaDig nought = Check.taught("coin in 0,5 year 0;coin in 1,5 year 1;");
        nought.dig(0);
        Check.same("meanYear() of 0", nought.meanYear(), 0.0);
        nought.dig(1);
        Check.same("meanYear() of 0 and 1", nought.meanYear(), 0.5);
        SofaDig full = Check.taught("seats 8 layers 3;" + coins(24, 999));
        SofaDig mixed = Check.taught("seats 8 layers 3;" + coins(23, 999) + "coin in 7,2 year 998;");
        for (int i = 0; i < 24; i++) {
            full.dig(i % 8);
            mixed.dig(i % 8);
        }
        Check.same("sureFinds() of 24", full.sureFinds(), 24);
        Check.same("meanYear() of 24 of 999", full.meanYear(), 999.0);
        Check.same("meanYear() of 23 of 999", mixed.meanYear(), (23 * 999 + 998) / 24.0);
        SofaDig thirds = Check.taught("coin in 0,5 year 1;coin in 1,5 year 0;coin in 2,5 year 0;");
        for (int seat = 0; seat < 3; seat++) {
            thirds.dig(seat);
        }
        Check.same("meanYear() of a third", thirds.meanYear(), 1 / 3.0);
    }

    private static String coins(int many, int year) {
        StringBuilder lines = new StringBuilder();
        for (int i = 0; i < many; i++) {
            lines.append("coin in ").append(i / 3).append(',').append(i % 3).append(" year ").append(year).append(';');
        }
        return lines.toString();
    }

    /** "how many cushions lie above its own one": 0 at the top, 9 at the bottom, more again behind a slide onto it. */
    private static void buried() {
        SofaDig dig = Check.taught("seats 2 layers 10;coin in 1,0 year 1;coin in 1,9 year 1;coin in 0,9 year 1;coin in 0,0 year 1;");
        Check.same("buriedUnder(0) at the bottom", dig.buriedUnder(0), 9);
        Check.same("buriedUnder(1) at the top", dig.buriedUnder(1), 0);
        Check.same("dig(1)", dig.dig(1), 1);
        Check.due("buriedUnder(1) of a found one", () -> dig.buriedUnder(1), Check.STATE);
        dig.prop(0);
        for (int i = 0; i < 8; i++) {
            dig.dig(1);
        }
        Check.same("buriedUnder(0) as the only one", dig.buriedUnder(0), 0);
        Check.same("takeProp(0)", dig.takeProp(0), 3);
        Check.same("buriedUnder(0) below slid ones", dig.buriedUnder(0), 3);
        Check.same("buriedUnder(2) of the one that slid first", dig.buriedUnder(2), 2);
        Check.same("buriedUnder(3) where they slid from", dig.buriedUnder(3), 6);
    }

    /** "which wraps around as a 64-bit integer" */
    private static void checksumWraps() {
        SofaDig dig = Check.taught("seats 8 layers 10;" + coins(24, 1));
        BigInteger d = BigInteger.valueOf(1021);
        int[] counts = {8, 10, 24, 0, 0, 0, 0, 0, 0, 0};
        d = joined(d, counts);
        for (int seat = 0; seat < 8; seat++) {
            d = joined(d, 10, 0, 3, 9);
        }
        d = joined(d, new int[48]);
        for (int stratum = 0; stratum < 10; stratum++) {
            d = joined(d, -1, 0);
        }
        Check.same("far beyond 64 bits", d.bitLength() > 500, true);
        Check.same("digest()", dig.digest(), d.longValue());
        SofaDig fresh = new SofaDig();
        BigInteger plain = joined(BigInteger.valueOf(1021), 4, 6, 0, 0, 0, 0, 0, 0, 0, 0);
        for (int seat = 0; seat < 4; seat++) {
            plain = joined(plain, 6, 0, 0, 5);
        }
        plain = joined(plain, -1, 0, -1, 0, -1, 0, -1, 0, -1, 0, -1, 0);
        Check.same("digest() of a new object", fresh.digest(), plain.longValue());
    }

    private static BigInteger joined(BigInteger start, int... numbers) {
        BigInteger d = start;
        for (int x : numbers) {
            d = d.multiply(BigInteger.valueOf(31)).add(BigInteger.valueOf(x));
        }
        return d;
    }

    /** "the stratum of its highest cushion (-1 without one)", and bestDig() of none is -1 too. */
    private static void checksumOfEmptySeats() {
        SofaDig dig = Check.taught("seats 2 layers 2;coin in 1,0 year 3;");
        for (int seat = 0; seat < 2; seat++) {
            dig.dig(seat);
            dig.dig(seat);
        }
        dig.prop(1);
        dig.passDays(30);
        BigInteger d = joined(BigInteger.valueOf(1021), 2, 2, 1, 30, 0, 4, 0, 1, 1, -1);
        d = joined(d, 0, 0, 0, -1, 0, 1, 0, -1, 1, 1, 3, 0, 3, 0);
        Check.same("digest() of empty seats", dig.digest(), d.longValue());
    }
}
