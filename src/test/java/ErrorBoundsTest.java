/** The edges of the errors 2 to 5, and of what a sofa can hold: promise 4. */
public final class ErrorBoundsTest {
    public static void main(String[] args) {
        takenEmpires();
        takenFinds();
        takenSprings();
        unknownNames();
        aheadOfIt();
        mostEmpires();
        mostFinds();
        mostOrders();
        sizes();
        years();
        placesOfPlainSofa();
        placesOfToldSofa();
        atOneToken();
        fromLeftToRight();
        grammarFirst();
        withoutALine();
        numberedFromNought();
        refusedTapes();
        anew();
        samePlacesAnew();
        manyTapes();
        Check.finish();
    }

    /** "the name behind empire is that of an empire told ahead" */
    private static void takenEmpires() {
        Check.fails(2, "empire a from 1 to 2;empire ^a from 1 to 2;");
        Check.fails(2, "empire a from 1 to 2;empire b from 1 to 2;empire ^a from 5 to 6;");
        Check.fails(2, Texts.empires(6) + "empire ^e0 from 1 to 2;");
        Check.fails(2, Texts.empires(6) + "empire ^e5 from 1 to 2;");
        Check.fails(2, Texts.empires(5) + "empire ^e4 from 1 to 2;");
        Check.holds("empire a from 1 to 2;empire a0 from 1 to 2;empire aa from 1 to 2;empire b from 1 to 2;");
    }

    /** "a coin or crumbs (for both of these)", and not for a spring. */
    private static void takenFinds() {
        for (String first : new String[] {"coin in 3,5 year 1;", "crumbs in 3,5 of a;"}) {
            String told = "empire a from 1 to 2;" + first;
            Check.fails(2, told + "coin in 3,^5 year 1;");
            Check.fails(2, told + "crumbs in 3,^5 of a;");
            Check.fails(2, told + "spring in 3,5;coin in 3,^005 year 1;");
            Check.holds(told + "spring in 3,5;coin in 3,4 year 1;crumbs in 2,5 of a;");
        }
        Check.fails(2, "coin in 0,0 year 1;coin in 0,^0 year 1;");
        Check.fails(2, Texts.coins(23) + "coin in 2,^5 year 1;");
    }

    private static void takenSprings() {
        Check.fails(2, "spring in 0,0;spring in 0,^0;");
        Check.fails(2, "spring in 3,5;spring in 0,0;spring in 3,^5;");
        Check.fails(2, "coin in 3,5 year 1;spring in 3,5;spring in 3,^5;");
        Check.holds("coin in 3,5 year 1;spring in 3,5;spring in 2,5;spring in 3,4;");
        // No number of springs is too great but for the tokens: no more than 65 find room.
        StringBuilder many = new StringBuilder("seats 8 layers 10;");
        for (int place = 0; place < 64; place++) {
            many.append("spring in ").append(place / 10).append(',').append(place % 10).append(';');
        }
        Check.fails(2, many + "spring in 6,^3;");
        Check.holds(many + "spring in 6,4;");
        Check.fails(1, many + "spring in 6,4;spring in 6,5^;");
    }

    /** "another name is not that of an empire told ahead" */
    private static void unknownNames() {
        Check.fails(3, "crumbs in 0,0 of ^a;");
        Check.fails(3, Texts.empires(6) + "crumbs in 0,0 of ^e6;");
        Check.fails(3, "dig first of ^a;");
        Check.fails(3, "prop last of ^a;");
        Check.fails(3, "free 1 when seen ^a;");
        Check.fails(3, Texts.empires(1) + "dig first of e0+last of ^e1;");
        Check.fails(3, Texts.empires(1) + "dig 1 when seen e0 or seen ^e1;");
        Check.fails(3, Texts.empires(1) + "dig 1 when sure first of e0-last of ^e;");
        Check.holds(Texts.empires(6) + "crumbs in 0,0 of e5;dig first of e0+last of e5 when seen e5;");
    }

    /** "told ahead": an empire that comes behind is none yet. */
    private static void aheadOfIt() {
        Check.fails(3, "crumbs in 0,0 of ^a;empire a from 1 to 2;");
        Check.fails(3, "dig 1 when seen ^a;empire a from 1 to 2;");
        Check.holds("empire a from 1 to 2;crumbs in 0,0 of a;");
        SofaDig dig = Check.taught("empire a from 1 to 2;");
        // The empires of the sofa that was told before are gone.
        Check.same("teach() of a name told before", Check.teachText(dig, "crumbs in 0,0 of a;"), 3);
        Check.same("errorAt() of a name told before", dig.errorAt(), 17);
        Check.same("teach() of an empire told before", Check.teachText(dig, "empire a from 1 to 2;"), 0);
        Check.same("teach() with an error", Check.teachText(dig, "empire b from 1 to 2;dig first of c;"), 3);
        Check.same("teach() of a name of a refused tape", Check.teachText(dig, "dig first of b;"), 3);
    }

    /** "the name of the 7th empire" */
    private static void mostEmpires() {
        for (int many = 0; many <= 6; many++) {
            SofaDig dig = Check.taught(Texts.empires(many));
            for (int empire = 0; empire <= 7; empire++) {
                int e = empire;
                Check.due("isSeenIn(0, " + e + ") of " + many, () -> Check.bit(dig.isSeenIn(0, e)), e < many ? 0 : Check.INDEX);
            }
        }
        Check.fails(4, Texts.empires(6) + "empire ^e6 from 1 to 2;");
        Check.fails(4, Texts.empires(6) + "dig 1;empire ^e6 from 1 to 2;empire e7 from 1 to 2;");
    }

    /** "the coin or crumbs of the 25th find (of both together)" */
    private static void mostFinds() {
        for (int many : new int[] {0, 1, 23, 24}) {
            SofaDig dig = Check.taught(Texts.coins(many));
            Check.same("finds()", dig.finds(), many);
            for (int find : new int[] {many - 1, many}) {
                Check.due("isCoin(" + find + ") of " + many, () -> Check.bit(dig.isCoin(find)), find >= 0 && find < many ? 1 : Check.INDEX);
            }
        }
        String big = "seats 5 layers 6;empire a from 1 to 2;";
        Check.fails(4, big + Texts.coins(24) + "^coin in 4,0 year 1;");
        Check.fails(4, big + Texts.coins(24) + "^crumbs in 4,0 of a;");
        String crumbs = Texts.coins(24).replaceAll("coin (in [^;]*) year [0-9]*;", "crumbs $1 of a;");
        Check.holds(big + crumbs);
        Check.fails(4, big + crumbs + "^crumbs in 4,0 of a;");
        Check.fails(4, big + crumbs + "^coin in 4,0 year 1;");
        Check.holds(big + Texts.coins(23) + "crumbs in 4,0 of a;spring in 4,1;");
        Check.fails(4, big + Texts.coins(23) + "crumbs in 4,0 of a;^coin in 4,1 year 1;");
        Check.holds(big + Texts.coins(24) + "spring in 4,0;");
    }

    /** "the first word of the 17th order" */
    private static void mostOrders() {
        for (String order : new String[] {"dig 1;", "prop 1;", "free 1;", "dig 1 when day=1;"}) {
            Check.holds(order.repeat(16));
            Check.fails(4, order.repeat(16) + "^" + order);
            Check.fails(4, "dig 1;prop 1;free 1;dig 1 when day<1;".repeat(4) + "^" + order);
        }
        SofaDig dig = Check.taught("seats 8 layers 10;" + "dig 0;dig 1;dig 2;dig 3;dig 4;dig 5;dig 6;dig 7;".repeat(2));
        dig.passDays(1);
        Check.same("ordersCarriedOut() of 16", dig.ordersCarriedOut(), 16);
        Check.same("cushionsDug() of 16", dig.cushionsDug(), 16);
    }

    /** "the number of seats is not 2 to 8, that of layers not 2 to 10" */
    private static void sizes() {
        for (int number : new int[] {0, 1, 2, 3, 7, 8, 9, 10, 11, 12, 258, 65538, 999999}) {
            String seats = "seats " + number + " layers 5;";
            if (number >= 2 && number <= 8) {
                Check.same("seats()", Check.taught(seats).seats(), number);
            } else {
                Check.failsAt(5, 6, seats);
            }
            String layers = "seats 5 layers " + number + ";";
            if (number >= 2 && number <= 10) {
                Check.same("strata()", Check.taught(layers).strata(), number);
            } else {
                Check.failsAt(5, 15, layers);
            }
        }
        Check.fails(5, "seats ^1 layers 1;");
        Check.fails(5, "seats ^9 layers 11;");
        Check.holds("seats 000008 layers 000010;");
    }

    /** "a number behind from, to or year is greater than 999, or that behind to is less than the one behind from" */
    private static void years() {
        Check.holds("empire a from 0 to 0;empire b from 999 to 999;empire c from 0 to 999;empire d from 998 to 999;");
        Check.fails(5, "empire a from ^1000 to 1000;");
        Check.fails(5, "empire a from ^1000 to 0;");
        Check.fails(5, "empire a from 0 to ^1000;");
        Check.fails(5, "empire a from 999 to ^998;");
        Check.fails(5, "empire a from 1 to ^0;");
        Check.fails(5, "empire a from ^999999 to 999999;");
        Check.fails(5, "empire a from 0 to ^999999;");
        Check.holds("empire a from 000999 to 000999;");
        Check.holds("coin in 0,0 year 0;coin in 0,1 year 999;coin in 0,2 year 000999;");
        Check.fails(5, "coin in 0,0 year ^1000;");
        Check.fails(5, "coin in 0,0 year ^999999;");
        SofaDig dig = Check.taught("coin in 0,5 year 0;coin in 0,4 year 999;");
        Check.same("yearOf(0)", dig.yearOf(0), 0);
        Check.same("yearOf(1)", dig.yearOf(1), 999);
    }

    /** "the numbers of a place are not those of a seat and of a stratum" */
    private static void placesOfPlainSofa() {
        for (String line : new String[] {"coin in S,K year 1;", "spring in S,K;", "empire a from 1 to 2;crumbs in S,K of a;"}) {
            Check.holds(line.replace("S", "0").replace("K", "0"));
            Check.holds(line.replace("S", "3").replace("K", "5"));
            Check.fails(5, line.replace("S", "^4").replace("K", "5"));
            Check.fails(5, line.replace("S", "3").replace("K", "^6"));
            Check.fails(5, line.replace("S", "^4").replace("K", "6"));
            Check.fails(5, line.replace("S", "^999999").replace("K", "0"));
            Check.fails(5, line.replace("S", "0").replace("K", "^999999"));
        }
    }

    private static void placesOfToldSofa() {
        int[][] sizes = {{2, 2}, {2, 10}, {8, 2}, {8, 10}, {5, 7}};
        for (int[] size : sizes) {
            String start = "seats " + size[0] + " layers " + size[1] + ";";
            Check.holds(start + "coin in " + (size[0] - 1) + "," + (size[1] - 1) + " year 1;");
            Check.fails(5, start + "coin in ^" + size[0] + "," + (size[1] - 1) + " year 1;");
            Check.fails(5, start + "coin in " + (size[0] - 1) + ",^" + size[1] + " year 1;");
            Check.fails(5, start + "spring in ^" + size[0] + ",0;");
            Check.fails(5, start + "spring in 0,^" + size[1] + ";");
        }
    }

    /** "of errors at one token the one with the smallest number" */
    private static void atOneToken() {
        Check.fails(2, Texts.empires(6) + "empire ^e3 from 1 to 2;");
        Check.fails(4, Texts.empires(6) + "empire ^e6 from 1 to 2;");
        // A place that is none can't be one that has already what the line tells.
        Check.fails(5, "spring in 3,5;spring in 3,^6;");
        Check.fails(5, "seats 8 layers 2;coin in 1,0 year 1;coin in 0,^2 year 1;");
        Check.fails(5, "seats 8 layers 10;coin in 1,0 year 1;coin in 0,^10 year 1;");
        Check.fails(5, "seats 8 layers 10;spring in 1,0;spring in 0,^10;");
        Check.fails(5, "seats 8 layers 10;spring in 7,9;spring in ^8,0;");
        Check.fails(5, "spring in 3,5;spring in ^4,5;");
    }

    /** "keywords, names and numbers are looked at from left to right, and the first error is told" */
    private static void fromLeftToRight() {
        Check.fails(2, "empire a from 1 to 2;empire ^a from 1000 to 2;");
        Check.fails(5, "empire a from ^1000 to 2;empire a from 1 to 2;");
        Check.fails(2, "coin in 0,0 year 1;coin in 0,^0 year 1000;");
        Check.fails(2, "coin in 0,0 year 1;crumbs in 0,^0 of a;");
        Check.fails(5, "crumbs in ^4,0 of a;");
        Check.fails(5, "crumbs in 0,^6 of a;");
        Check.fails(4, Texts.coins(24) + "^coin in 9,9 year 1000;");
        Check.fails(4, Texts.coins(24) + "^coin in 0,0 year 1;");
        Check.fails(4, Texts.coins(24) + "^crumbs in 0,0 of a;");
        Check.fails(4, "dig 1;".repeat(16) + "^dig first of a;");
        Check.fails(3, "dig 1;".repeat(15) + "dig first of ^a;dig 1;dig 1;");
        Check.fails(4, Texts.empires(6) + "empire ^e6 from 1000 to 2;");
        Check.fails(5, "seats ^1 layers 6;dig first of a;");
        Check.fails(5, "seats 2 layers ^11;coin in 2,0 year 1;");
        Check.fails(3, "dig first of ^a;spring in 9,9;");
        Check.fails(5, "empire a from 2 to ^1;crumbs in 0,0 of b;");
    }

    /** "Only if there is no error 1": any other one, however far ahead, gives way to it. */
    private static void grammarFirst() {
        Check.fails(1, "seats 9 layers 11;dig 1;^;");
        Check.fails(1, Texts.empires(7) + "dig^");
        Check.fails(1, Texts.coins(24) + "coin in 0,0 year 1^");
        Check.fails(1, "dig 1;".repeat(17) + "^#");
        Check.fails(1, "spring in 0,0;spring in 0,0^");
        Check.fails(1, "dig first of a when (1)^;");
        Check.fails(1, "coin in 9,9 year 1000;^abcdefghijk");
        Check.fails(1, "coin in 9,9 year ^1000000;");
        Check.fails(1, "dig --------^-first of a;");
    }

    /** "4 and 6 without one" */
    private static void withoutALine() {
        SofaDig dig = Check.taught("seats 8 layers 10;spring in 7,9;");
        for (String text : new String[] {"", "dig 1;", "spring in 3,5;"}) {
            Check.same("teach() of " + text, Check.teachText(dig, text), 0);
            Check.same("seats() of " + text, dig.seats(), 4);
            Check.same("strata() of " + text, dig.strata(), 6);
            Check.due("heightOf(4) of " + text, () -> dig.heightOf(4), Check.INDEX);
            Check.due("notBefore(6) of " + text, () -> dig.notBefore(6), Check.INDEX);
            Check.same("heightOf(3) of " + text, dig.heightOf(3), 6);
        }
    }

    /** "Empires, finds (coins and crumbs together) and orders are numbered from 0 in the order in which they are told." */
    private static void numberedFromNought() {
        SofaDig dig = Check.taught("empire z from 5 to 6;coin in 3,5 year 8;empire a from 1 to 2;crumbs in 0,5 of a;crumbs in 0,4 of z;coin in 0,3 year 7;");
        Check.same("yearOf(0)", dig.yearOf(0), 8);
        Check.same("empireOf(1)", dig.empireOf(1), 1);
        Check.same("empireOf(2)", dig.empireOf(2), 0);
        Check.same("yearOf(3)", dig.yearOf(3), 7);
        Check.same("dig(0)", dig.dig(0), 1);
        Check.same("isSeenIn(5, 1)", dig.isSeenIn(5, 1), true);
        Check.same("isSeenIn(5, 0)", dig.isSeenIn(5, 0), false);
        Check.same("dig(3)", dig.dig(3), 0);
    }

    /** "If it has an error, all stays (but the tape is empty)." */
    private static void refusedTapes() {
        String sofa = "seats 3 layers 9;empire a from 4 to 5;coin in 0,8 year 7;crumbs in 1,8 of a;spring in 2,8;prop 1;dig 0;dig 0 when seen a;";
        String[] texts = {"seats 2 layers 2;dig", "empire b from 1 to 2;spring in 0,0;spring in 0,0;", "coin in 3,0 year 1;dig first of b;",
            "dig 2;".repeat(17), "seats 7 layers 7;spring in 0,0;coin in 0,0 year 1;prop 1;coin in 1,1 year 1000;"};
        for (int error = 1; error <= 5; error++) {
            String text = texts[error - 1];
            Twins twins = new Twins().teach(sofa).both(dig -> {
                dig.passDays(3);
                dig.prop(2);
                dig.dig(1);
            });
            twins.alone("teach() of " + text, dig -> Check.teachText(dig, text), error);
            twins.alone("trim(1) behind " + text, dig -> dig.trim(1), Check.ARGUMENT);
            Answers.same("behind the error " + error, twins.one, twins.other);
            twins.liveOn("the error " + error);
        }
    }

    /** "all begins anew, with all cushions and without props": nothing is left of the sofas of before, nor of a refused one. */
    private static void anew() {
        String full = "seats 3 layers 4;empire a from 1 to 2;empire b from 3 to 4;" + Texts.coins(3) + "coin in 0,3 year 5;coin in 1,3 year 6;"
            + "crumbs in 2,3 of a;crumbs in 0,2 of b;spring in 0,3;spring in 1,1;spring in 2,0;prop 0;prop 1;dig 2;free 1 when day=1;";
        String[] texts = {"", "seats 2 layers 2;coin in 1,1 year 5;", full, "seats 8 layers 10;" + Texts.empires(6) + Texts.coins(24) + "dig day;".repeat(16),
            "seats 3 layers 10;empire a from 1 to 2;crumbs in 2,9 of a;free 1;dig 2 when seen a;", "seats 3 layers 4;dig 0;"};
        for (String text : texts) {
            SofaDig dig = Check.taught(full);
            digAll(dig);
            Check.same("teach() again", Check.teachText(dig, full), 0);
            digAll(dig);
            Check.same("teach() of an error", Check.teachText(dig, full + "dig"), 1);
            Check.same("teach() of " + text, Check.teachText(dig, text), 0);
            SofaDig fresh = Check.taught(text);
            Answers.same("anew " + text, dig, fresh);
            Check.same("passDays(7) anew", dig.passDays(7), fresh.passDays(7));
            Check.same("digest() anew", dig.digest(), fresh.digest());
        }
    }

    /** What was told of a place in a sofa of before is told of no place now. */
    private static void samePlacesAnew() {
        String corners = "seats 8 layers 10;empire a from 1 to 2;coin in 0,0 year 1;crumbs in 7,9 of a;coin in 0,9 year 1;crumbs in 7,0 of a;"
            + "spring in 0,0;spring in 7,9;spring in 0,9;spring in 7,0;";
        SofaDig dig = new SofaDig();
        for (int i = 0; i < 4; i++) {
            Check.same("teach() for the time " + i, Check.teachText(dig, corners), 0);
            Check.same("teach() with an error for the time " + i, Check.teachText(dig, corners + "dig first of b;"), 3);
            Check.same("hasTopSpring(7)", dig.hasTopSpring(7), true);
            Check.same("teach() of none of them", Check.teachText(dig, "seats 8 layers 10;"), 0);
            Check.same("hasTopSpring(7) of none", dig.hasTopSpring(7), false);
            Check.same("findsLeft(0) of none", dig.findsLeft(0), 0);
        }
    }

    /** A full tape is no fuller for those that were taught before it. */
    private static void manyTapes() {
        SofaDig dig = new SofaDig();
        for (int i = 0; i < 5; i++) {
            String text = Texts.orderOf(399 + i % 2);
            Check.same("teach() of a full tape", Check.teachText(dig, text), 0);
            dig.passDays(1);
            int seat = i % 2 == 0 ? 199 % 4 : 197 % 4;
            Check.same("heightOf(" + seat + ") behind the tape " + i, dig.heightOf(seat), 5);
            Check.same("cushionsDug() behind the tape " + i, dig.cushionsDug(), 1);
        }
        Check.same("teach() of an error", Check.teachText(dig, Texts.orderOf(399) + "dig"), 1);
        Check.same("teach() of all that there can be", Check.teachText(dig, Texts.empires(6) + Texts.coins(24) + "dig 0;dig 1;dig 2;dig 3;".repeat(4)), 0);
        Check.same("passDays(1)", dig.passDays(1), 16);
        Check.same("teach() of two orders", Check.teachText(dig, "dig 2 when day=0;prop 3;"), 0);
        dig.passDays(2);
        Check.same("cushionsDug() by two orders", dig.cushionsDug(), 1);
        Check.same("heightOf(2) by two orders", dig.heightOf(2), 5);
        Check.same("isPropped(3) by two orders", dig.isPropped(3), true);
    }

    private static void digAll(SofaDig dig) {
        dig.passDays(2);
        for (int seat = 2; seat >= 0; seat--) {
            while (dig.heightOf(seat) > 0) {
                dig.dig(seat);
            }
        }
        Check.same("found() of all", dig.found(), dig.finds());
        dig.prop(2);
    }
}
