/** Promises 6 to 21 and 32 to 34: counts, seats, and digging and propping by hand. */
public final class DigTest {
    private static final String THREE = "seats 3 layers 5; empire a from 10 to 20;"
        + "coin in 1, 4 year 50; crumbs in 1, 3 of a; coin in 0, 4 year 70; coin in 1, 0 year 7; spring in 2, 3;";

    public static void main(String[] args) {
        sizes();
        digging();
        neighbours();
        farSlides();
        springs();
        props();
        freeing();
        emptySeat();
        wrongSeats();
        Check.finish();
    }

    private static void counts(SofaDig dig, int dug, int slides, int found, int sure, int props) {
        Check.same("cushionsDug()", dig.cushionsDug(), dug);
        Check.same("slides()", dig.slides(), slides);
        Check.same("found()", dig.found(), found);
        Check.same("sureFinds()", dig.sureFinds(), sure);
        Check.same("props()", dig.props(), props);
        Check.same("days()", dig.days(), 0);
        Check.same("ordersCarriedOut()", dig.ordersCarriedOut(), 0);
    }

    private static void heights(SofaDig dig, int... due) {
        for (int seat = 0; seat < due.length; seat++) {
            Check.same("heightOf(" + seat + ")", dig.heightOf(seat), due[seat]);
        }
    }

    private static void sizes() {
        SofaDig dig = Check.taught(THREE);
        Check.same("seats()", dig.seats(), 3);
        Check.same("strata()", dig.strata(), 5);
        Check.same("finds()", dig.finds(), 4);
        SofaDig big = Check.taught("seats 8 layers 10;");
        Check.same("seats()", big.seats(), 8);
        Check.same("strata()", big.strata(), 10);
        SofaDig small = Check.taught("seats 2 layers 2; coin in 1, 1 year 3;");
        Check.same("seats()", small.seats(), 2);
        Check.same("strata()", small.strata(), 2);
        Check.same("finds()", small.finds(), 1);
    }

    private static void digging() {
        SofaDig dig = Check.taught(THREE);
        counts(dig, 0, 0, 0, 0, 0);
        Check.same("findsLeft(1)", dig.findsLeft(1), 3);
        Check.same("findsLeft(2)", dig.findsLeft(2), 0);
        Check.same("dig(1)", dig.dig(1), 0);
        Check.same("findsLeft(1)", dig.findsLeft(1), 2);
        Check.same("topStratum(1)", dig.topStratum(1), 3);
        Check.same("dig(1)", dig.dig(1), 1);
        Check.same("dig(1)", dig.dig(1), -1);
        heights(dig, 5, 2, 5);
        counts(dig, 3, 0, 2, 2, 0);
        Check.same("dig(1)", dig.dig(1), -1);
        // 5, 1, 5: of both beside the seat 1 the one with the smaller number slides.
        heights(dig, 4, 2, 5);
        counts(dig, 4, 1, 2, 2, 0);
        Check.same("topStratum(1)", dig.topStratum(1), 4);
        Check.same("isTopLoose(1)", dig.isTopLoose(1), true);
        Check.same("isTopLoose(0)", dig.isTopLoose(0), false);
        Check.same("findsLeft(1)", dig.findsLeft(1), 2);
        Check.same("findsLeft(0)", dig.findsLeft(0), 0);
        Check.same("hasTopSpring(2)", dig.hasTopSpring(2), false);
        Check.same("dig(1) of a loose one", dig.dig(1), 2);
        // 4, 1, 5: now the seat 2 is the only one that is high enough.
        heights(dig, 4, 2, 4);
        counts(dig, 5, 2, 3, 2, 0);
        Check.same("hasTopSpring(2)", dig.hasTopSpring(2), true);
        Check.same("topStratum(2)", dig.topStratum(2), 3);
    }

    private static void neighbours() {
        // The seats 0 and 2 are both low: the cushion of the seat 1 lies on the one with the smaller number.
        SofaDig dig = Check.taught("seats 3 layers 6; spring in 1, 5;");
        dig.prop(1);
        for (int i = 0; i < 5; i++) {
            dig.dig(0);
            dig.dig(2);
        }
        heights(dig, 1, 6, 1);
        Check.same("takeProp(1)", dig.takeProp(1), 0);
        Check.same("dig(1)", dig.dig(1), -1);
        // 1, 5, 1: onto the seat 0, and 2, 4, 1 is left.
        heights(dig, 2, 4, 1);
        Check.same("slides()", dig.slides(), 1);
    }

    private static void farSlides() {
        SofaDig dig = Check.taught("seats 4 layers 9;");
        for (int i = 0; i < 3; i++) {
            dig.dig(1);
        }
        for (int i = 0; i < 5; i++) {
            dig.dig(0);
        }
        heights(dig, 4, 6, 9, 9);
        Check.same("slides()", dig.slides(), 0);
        Check.same("dig(0)", dig.dig(0), -1);
        heights(dig, 3, 6, 9, 9);
        Check.same("wouldSlide(0)", dig.wouldSlide(0), 2);
        Check.same("dig(0)", dig.dig(0), -1);
        // 2 6 9 9: from 1 to 0, then 3 5 9 9 lets one slide from 2 to 1.
        heights(dig, 3, 6, 8, 9);
        Check.same("slides()", dig.slides(), 2);
        Check.same("isTopLoose(1)", dig.isTopLoose(1), true);
        Check.same("topStratum(1)", dig.topStratum(1), 8);
        Check.same("topStratum(0)", dig.topStratum(0), 5);
        // 3 6 10: what slides from 2 to 1 makes one slide from 1 to 0.
        SofaDig back = Check.taught("seats 3 layers 10;");
        back.prop(2);
        for (int i = 0; i < 4; i++) {
            back.dig(1);
            back.dig(0);
        }
        for (int i = 0; i < 3; i++) {
            back.dig(0);
        }
        heights(back, 3, 6, 10);
        Check.same("takeProp(2)", back.takeProp(2), 2);
        heights(back, 4, 6, 9);
        Check.same("topStratum(0)", back.topStratum(0), 9);
        Check.same("isTopLoose(1)", back.isTopLoose(1), false);
    }

    private static void springs() {
        SofaDig dig = Check.taught("seats 2 layers 8; spring in 0, 7; spring in 0, 6;");
        for (int i = 0; i < 7; i++) {
            dig.dig(1);
        }
        heights(dig, 8, 1);
        Check.same("hasTopSpring(0)", dig.hasTopSpring(0), true);
        Check.same("wouldSlide(0)", dig.wouldSlide(0), 0);
        Check.same("dig(0)", dig.dig(0), -1);
        heights(dig, 7, 1);
        Check.same("hasTopSpring(0)", dig.hasTopSpring(0), true);
        Check.same("dig(0)", dig.dig(0), -1);
        // 6, 1: the cushion of the stratum 5 has no spring; then 5, 2.
        heights(dig, 5, 2);
        Check.same("slides()", dig.slides(), 1);
        Check.same("topStratum(1)", dig.topStratum(1), 5);
        // A spring below a loose cushion keeps what lies on it no longer than it is the highest one.
        SofaDig low = Check.taught("seats 2 layers 9; spring in 0, 7;");
        for (int i = 0; i < 6; i++) {
            low.dig(1);
        }
        heights(low, 8, 4);
        Check.same("hasTopSpring(0)", low.hasTopSpring(0), true);
        low.dig(1);
        low.dig(1);
        heights(low, 8, 2);
        Check.same("slides()", low.slides(), 1);
    }

    private static void props() {
        SofaDig dig = Check.taught("seats 5 layers 6;");
        Check.same("prop(4)", dig.prop(4), 1);
        Check.due("prop(4) again", () -> dig.prop(4), Check.STATE);
        Check.same("prop(0)", dig.prop(0), 2);
        Check.same("prop(2)", dig.prop(2), 3);
        Check.due("a fourth prop", () -> dig.prop(1), Check.STATE);
        Check.due("prop(2) as one of 3", () -> dig.prop(2), Check.STATE);
        Check.due("prop(5) as the fourth", () -> dig.prop(5), Check.INDEX);
        Check.same("props()", dig.props(), 3);
        boolean[] due = {true, false, true, false, true};
        for (int seat = 0; seat < 5; seat++) {
            Check.same("isPropped(" + seat + ")", dig.isPropped(seat), due[seat]);
        }
        Check.same("takeProp(0)", dig.takeProp(0), 0);
        Check.due("takeProp(0) again", () -> dig.takeProp(0), Check.STATE);
        Check.due("takeProp(1)", () -> dig.takeProp(1), Check.STATE);
        Check.same("isPropped(0)", dig.isPropped(0), false);
        Check.same("props()", dig.props(), 2);
        Check.same("prop(1)", dig.prop(1), 3);
        // A prop keeps a seat's cushions from sliding, not others from sliding onto it, and not from being dug.
        SofaDig low = Check.taught("seats 2 layers 6; prop 0;");
        low.prop(1);
        for (int i = 0; i < 3; i++) {
            low.dig(1);
        }
        low.dig(1);
        heights(low, 5, 3);
        Check.same("isTopLoose(1)", low.isTopLoose(1), true);
    }

    private static void freeing() {
        SofaDig dig = Check.taught("seats 2 layers 9; coin in 0, 8 year 3;");
        dig.prop(0);
        for (int i = 0; i < 8; i++) {
            dig.dig(1);
        }
        heights(dig, 9, 1);
        counts(dig, 8, 0, 0, 0, 1);
        Check.same("takeProp(0)", dig.takeProp(0), 3);
        heights(dig, 6, 4);
        counts(dig, 8, 3, 0, 0, 0);
        Check.same("topStratum(1)", dig.topStratum(1), 6);
        dig.dig(1);
        dig.dig(1);
        counts(dig, 10, 4, 0, 0, 0);
        heights(dig, 5, 3);
        Check.same("topStratum(1)", dig.topStratum(1), 5);
        dig.dig(1);
        // The coin lies where it slid first, under what slid behind it.
        Check.same("dig(1) of the coin", dig.dig(1), 0);
        Check.same("isSure(0)", dig.isSure(0), false);
        counts(dig, 12, 5, 1, 0, 0);
    }

    private static void emptySeat() {
        SofaDig dig = Check.taught("seats 2 layers 2; coin in 0, 0 year 3;");
        Check.same("dig(0)", dig.dig(0), -1);
        Check.same("dig(0)", dig.dig(0), 0);
        Check.same("heightOf(0)", dig.heightOf(0), 0);
        Check.due("topStratum(0)", () -> dig.topStratum(0), Check.STATE);
        Check.due("isTopLoose(0)", () -> Check.bit(dig.isTopLoose(0)), Check.STATE);
        Check.due("hasTopSpring(0)", () -> Check.bit(dig.hasTopSpring(0)), Check.STATE);
        Check.due("dig(0)", () -> dig.dig(0), Check.STATE);
        Check.due("wouldSlide(0)", () -> dig.wouldSlide(0), Check.STATE);
        Check.same("findsLeft(0)", dig.findsLeft(0), 0);
        Check.same("prop(0) of an empty seat", dig.prop(0), 1);
        Check.same("takeProp(0) of an empty seat", dig.takeProp(0), 0);
        Check.same("cushionsDug()", dig.cushionsDug(), 2);
        // A coin that slid away from an emptied seat's neighbour lies on it as the lowest cushion.
        SofaDig high = Check.taught("seats 2 layers 4; coin in 1, 3 year 3;");
        for (int i = 0; i < 4; i++) {
            high.dig(0);
        }
        Check.same("heightOf(0)", high.heightOf(0), 1);
        Check.same("buriedUnder(0)", high.buriedUnder(0), 0);
        Check.same("findsLeft(0)", high.findsLeft(0), 1);
    }

    private static void wrongSeats() {
        SofaDig dig = Check.taught("seats 3 layers 5; dig 0;");
        long digest = dig.digest();
        for (int seat : new int[] {-1, 3, Integer.MIN_VALUE, Integer.MAX_VALUE}) {
            Check.due("heightOf(" + seat + ")", () -> dig.heightOf(seat), Check.INDEX);
            Check.due("isPropped(" + seat + ")", () -> Check.bit(dig.isPropped(seat)), Check.INDEX);
            Check.due("topStratum(" + seat + ")", () -> dig.topStratum(seat), Check.INDEX);
            Check.due("isTopLoose(" + seat + ")", () -> Check.bit(dig.isTopLoose(seat)), Check.INDEX);
            Check.due("hasTopSpring(" + seat + ")", () -> Check.bit(dig.hasTopSpring(seat)), Check.INDEX);
            Check.due("findsLeft(" + seat + ")", () -> dig.findsLeft(seat), Check.INDEX);
            Check.due("dig(" + seat + ")", () -> dig.dig(seat), Check.INDEX);
            Check.due("prop(" + seat + ")", () -> dig.prop(seat), Check.INDEX);
            Check.due("takeProp(" + seat + ")", () -> dig.takeProp(seat), Check.INDEX);
            Check.due("wouldSlide(" + seat + ")", () -> dig.wouldSlide(seat), Check.INDEX);
        }
        Check.same("digest() behind them", dig.digest(), digest);
    }
}
