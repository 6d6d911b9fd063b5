/** The edges of "2. Cushions" down to "Props": digging, sliding, loose cushions, and at most 3 props. */
public final class CushionBoundsTest {
    public static void main(String[] args) {
        leastAndGreatest();
        wholeStacks();
        threeHigherStays();
        emptyNeighbour();
        firstAndLastSeat();
        onlyBeside();
        smallestSeatFirst();
        smallerNeighbourFirst();
        otherNeighbour();
        proppedStays();
        proppedTakes();
        springStays();
        springFurtherDown();
        slidesOnAndOn();
        slidesFurtherLeft();
        slidBack();
        whatItHolds();
        belowLooseOnes();
        mostProps();
        fewerSeatsThanProps();
        propsOfOrders();
        takingProps();
        Check.finish();
    }

    private static void heights(String what, SofaDig dig, int... due) {
        for (int seat = 0; seat < due.length; seat++) {
            Check.same("heightOf(" + seat + ") " + what, dig.heightOf(seat), due[seat]);
        }
    }

    private static void digs(SofaDig dig, int seat, int times) {
        for (int i = 0; i < times; i++) {
            dig.dig(seat);
        }
    }

    /** A sofa of seats that were dug down to these heights, from the first one on, and that nothing slid in. */
    private static SofaDig ofHeights(String more, int layers, int... heights) {
        SofaDig dig = Check.taught("seats " + heights.length + " layers " + layers + ";" + more);
        for (int seat = 0; seat < heights.length; seat++) {
            digs(dig, seat, layers - heights[seat]);
        }
        heights("at first", dig, heights);
        Check.same("slides() at first", dig.slides(), 0);
        return dig;
    }

    /** The numbers of seats and of strata, from the least to the greatest. */
    private static void leastAndGreatest() {
        for (int seats = 2; seats <= 8; seats++) {
            for (int strata = 2; strata <= 10; strata++) {
                SofaDig dig = Check.taught("seats " + seats + " layers " + strata + ";spring in " + (seats - 1) + "," + (strata - 1) + ";");
                Check.same("heightOf of the last seat", dig.heightOf(seats - 1), strata);
                Check.same("topStratum of the last seat", dig.topStratum(seats - 1), strata - 1);
                Check.same("hasTopSpring of the last seat", dig.hasTopSpring(seats - 1), true);
                Check.same("hasTopSpring of the one beside it", dig.hasTopSpring(seats - 2), false);
                Check.same("isTopLoose of the last seat", dig.isTopLoose(seats - 1), false);
                Check.due("heightOf of one more", () -> dig.heightOf(dig.seats()), Check.INDEX);
            }
        }
    }

    /** From full to empty: the strata go down one by one, and the empty one is refused. */
    private static void wholeStacks() {
        SofaDig dig = Check.taught("seats 3 layers 10;" + coins(2, 10));
        dig.prop(1);
        for (int height = 10; height > 0; height--) {
            Check.same("heightOf(2)", dig.heightOf(2), height);
            Check.same("topStratum(2)", dig.topStratum(2), height - 1);
            Check.same("findsLeft(2)", dig.findsLeft(2), height);
            Check.same("buriedUnder(0)", dig.buriedUnder(0), height - 1);
            Check.same("dig(2)", dig.dig(2), height - 1);
        }
        Check.same("heightOf(2)", dig.heightOf(2), 0);
        Check.same("findsLeft(2)", dig.findsLeft(2), 0);
        Check.due("dig(2) of an empty one", () -> dig.dig(2), Check.STATE);
        Check.due("topStratum(2) of an empty one", () -> dig.topStratum(2), Check.STATE);
        Check.due("isTopLoose(2) of an empty one", () -> Check.bit(dig.isTopLoose(2)), Check.STATE);
        Check.due("hasTopSpring(2) of an empty one", () -> Check.bit(dig.hasTopSpring(2)), Check.STATE);
        Check.due("wouldSlide(2) of an empty one", () -> dig.wouldSlide(2), Check.STATE);
        Check.same("cushionsDug()", dig.cushionsDug(), 10);
        Check.same("slides()", dig.slides(), 0);
    }

    private static String coins(int seat, int strata) {
        StringBuilder lines = new StringBuilder();
        for (int stratum = 0; stratum < strata; stratum++) {
            lines.append("coin in ").append(seat).append(',').append(stratum).append(" year ").append(stratum).append(';');
        }
        return lines.toString();
    }

    /** "more than 3 higher" */
    private static void threeHigherStays() {
        for (int layers = 4; layers <= 10; layers++) {
            SofaDig dig = ofHeights("", layers, layers, layers - 3);
            Check.same("wouldSlide(1)", dig.wouldSlide(1), 1);
            dig.dig(1);
            heights("behind 4 higher", dig, layers - 1, layers - 3);
            Check.same("slides() behind 4 higher", dig.slides(), 1);
        }
        SofaDig low = ofHeights("", 3, 3, 0);
        Check.same("slides() of 3 layers", low.slides(), 0);
    }

    /** An emptied seat takes a cushion too, as its lowest one. */
    private static void emptyNeighbour() {
        SofaDig dig = ofHeights("", 4, 4, 1);
        dig.dig(1);
        heights("beside an empty one", dig, 3, 1);
        Check.same("topStratum(1)", dig.topStratum(1), 3);
        Check.same("isTopLoose(1)", dig.isTopLoose(1), true);
        Check.same("dig(1)", dig.dig(1), -1);
        heights("3 beside an empty one", dig, 3, 0);
        Check.same("slides()", dig.slides(), 1);
        // Two at a time: 7 beside nothing slides until 5 beside 2.
        SofaDig prop = Check.taught("seats 2 layers 7;");
        prop.prop(0);
        digs(prop, 1, 7);
        heights("propped", prop, 7, 0);
        Check.same("takeProp(0)", prop.takeProp(0), 2);
        heights("behind takeProp(0)", prop, 5, 2);
    }

    /** The first and the last seat have one seat beside them, and not each other. */
    private static void firstAndLastSeat() {
        SofaDig dig = Check.taught("seats 3 layers 10;");
        dig.prop(1);
        digs(dig, 0, 10);
        heights("the first one empty", dig, 0, 10, 10);
        digs(dig, 2, 10);
        heights("the last one empty", dig, 0, 10, 0);
        Check.same("slides()", dig.slides(), 0);
        SofaDig right = Check.taught("seats 8 layers 10;");
        right.prop(6);
        digs(right, 7, 10);
        heights("the 8th one empty", right, 10, 10, 10, 10, 10, 10, 10, 0);
        Check.same("wouldSlide(0)", right.wouldSlide(0), 0);
        Check.same("takeProp(6)", right.takeProp(6) > 0, true);
        Check.same("isTopLoose(7)", right.isTopLoose(7), true);
        SofaDig left = Check.taught("seats 8 layers 10;");
        left.prop(1);
        digs(left, 0, 10);
        Check.same("takeProp(1)", left.takeProp(1) > 0, true);
        Check.same("isTopLoose(0)", left.isTopLoose(0), true);
        Check.same("heightOf(7)", left.heightOf(7), 10);
    }

    /** Two seats away is not beside. */
    private static void onlyBeside() {
        SofaDig dig = ofHeights("", 9, 9, 7, 4);
        dig.dig(2);
        heights("5 higher and two away", dig, 9, 6, 4);
        Check.same("slides()", dig.slides(), 1);
        Check.same("topStratum(2)", dig.topStratum(2), 6);
    }

    /** "the seat with the smallest number is taken" */
    private static void smallestSeatFirst() {
        SofaDig dig = Check.taught("seats 4 layers 8;");
        dig.prop(1);
        dig.prop(2);
        digs(dig, 0, 5);
        digs(dig, 3, 5);
        heights("propped", dig, 3, 8, 8, 3);
        dig.takeProp(2);
        // The seat 2 gave one to the seat 3 then, and is no more than 3 higher.
        heights("one free", dig, 3, 8, 7, 4);
        Check.same("takeProp(1)", dig.takeProp(1), 1);
        heights("both free", dig, 4, 7, 7, 4);
        // Both pits of one hill: the hill is just high enough for one of them.
        SofaDig hill = Check.taught("seats 3 layers 9;");
        hill.prop(1);
        digs(hill, 0, 5);
        digs(hill, 2, 5);
        heights("the hill", hill, 4, 9, 4);
        Check.same("takeProp(1)", hill.takeProp(1), 2);
        heights("the hill slid", hill, 5, 7, 5);
        Check.same("topStratum(0)", hill.topStratum(0), 8);
        Check.same("topStratum(2)", hill.topStratum(2), 7);
        SofaDig low = Check.taught("seats 3 layers 8;");
        low.prop(1);
        digs(low, 0, 4);
        digs(low, 2, 4);
        Check.same("takeProp(1)", low.takeProp(1), 1);
        heights("only the smaller one", low, 5, 7, 4);
    }

    /** "of both beside it the one with the smaller number, if it can be so" */
    private static void smallerNeighbourFirst() {
        SofaDig dig = ofHeights("", 7, 7, 4, 7);
        dig.dig(1);
        heights("the one with the smaller number", dig, 6, 4, 7);
        Check.same("slides()", dig.slides(), 1);
        // The other one is higher, but the smaller number goes first all the same.
        SofaDig higher = Check.taught("seats 3 layers 9;");
        higher.dig(0);
        higher.prop(2);
        higher.prop(0);
        digs(higher, 1, 5);
        higher.takeProp(0);
        heights("8, 4, 9 gives 7, 5, 9", higher, 7, 5, 9);
        Check.same("topStratum(1)", higher.topStratum(1), 7);
        Check.same("takeProp(2)", higher.takeProp(2), 1);
        heights("the other one behind it", higher, 7, 6, 8);
    }

    /** "otherwise the other one": not high enough, propped, or with a spring. */
    private static void otherNeighbour() {
        SofaDig low = ofHeights("", 7, 6, 4, 7);
        low.dig(1);
        heights("not high enough", low, 6, 4, 6);
        SofaDig propped = ofHeights("", 7, 7, 4, 7);
        propped.prop(0);
        propped.dig(1);
        heights("propped", propped, 7, 4, 6);
        SofaDig spring = ofHeights("spring in 0,6;", 7, 7, 4, 7);
        spring.dig(1);
        heights("with a spring", spring, 7, 4, 6);
        SofaDig both = ofHeights("spring in 0,6;", 7, 7, 4, 7);
        both.prop(2);
        both.dig(1);
        heights("neither", both, 7, 3, 7);
        Check.same("slides()", both.slides(), 0);
    }

    /** "that is not propped" */
    private static void proppedStays() {
        SofaDig dig = Check.taught("seats 2 layers 10;");
        dig.prop(0);
        digs(dig, 1, 10);
        heights("10 beside none", dig, 10, 0);
        Check.same("dig(0) of a propped one", dig.dig(0), -1);
        heights("9 beside none", dig, 9, 0);
        Check.same("slides()", dig.slides(), 0);
        Check.same("isPropped(0)", dig.isPropped(0), true);
        digs(dig, 0, 9);
        heights("both empty", dig, 0, 0);
        Check.same("isPropped(0) of an empty one", dig.isPropped(0), true);
        Check.same("takeProp(0) of an empty one", dig.takeProp(0), 0);
    }

    /** A prop keeps back what stands above it, and not what slides onto it. */
    private static void proppedTakes() {
        SofaDig dig = ofHeights("", 5, 5, 2);
        dig.prop(1);
        dig.dig(1);
        heights("onto a propped one", dig, 4, 2);
        Check.same("isTopLoose(1)", dig.isTopLoose(1), true);
        Check.same("isPropped(1)", dig.isPropped(1), true);
    }

    /** "and whose highest cushion has no spring" */
    private static void springStays() {
        SofaDig dig = Check.taught("seats 2 layers 10;spring in 0,9;");
        digs(dig, 1, 10);
        heights("10 beside none", dig, 10, 0);
        Check.same("slides()", dig.slides(), 0);
        Check.same("hasTopSpring(0)", dig.hasTopSpring(0), true);
        Check.same("wouldSlide(0)", dig.wouldSlide(0), 3);
        Check.same("dig(0)", dig.dig(0), -1);
        heights("without its spring", dig, 6, 3);
        Check.same("hasTopSpring(0)", dig.hasTopSpring(0), false);
    }

    /** A spring further down keeps nothing back until it is the highest one. */
    private static void springFurtherDown() {
        SofaDig dig = Check.taught("seats 2 layers 10;spring in 0,7;spring in 1,0;spring in 0,0;");
        dig.prop(0);
        digs(dig, 1, 9);
        Check.same("hasTopSpring(1)", dig.hasTopSpring(1), true);
        Check.same("takeProp(0)", dig.takeProp(0), 2);
        heights("down to the spring", dig, 8, 3);
        Check.same("hasTopSpring(0)", dig.hasTopSpring(0), true);
        Check.same("hasTopSpring(1)", dig.hasTopSpring(1), false);
        Check.same("topStratum(1)", dig.topStratum(1), 8);
    }

    /** "as long as there is a seat": one dig can move cushions all along the row. */
    private static void slidesOnAndOn() {
        SofaDig dig = Check.taught("seats 3 layers 10;");
        digs(dig, 1, 3);
        digs(dig, 0, 6);
        heights("at first", dig, 4, 7, 10);
        Check.same("wouldSlide(0)", dig.wouldSlide(0), 2);
        dig.dig(0);
        heights("along the row", dig, 4, 7, 9);
        SofaDig wide = Check.taught("seats 8 layers 10;");
        wide.prop(1);
        digs(wide, 0, 10);
        // 4 from 1 to 0 until they are 4 and 6, and one from 2 to 1.
        Check.same("takeProp(1)", wide.takeProp(1), 5);
        heights("behind the row's slides", wide, 4, 7, 9, 10, 10, 10, 10, 10);
    }

    /** A slide can make a seat low to which the row was looked through already. */
    private static void slidesFurtherLeft() {
        SofaDig dig = Check.taught("seats 3 layers 10;");
        digs(dig, 1, 3);
        digs(dig, 2, 6);
        heights("at first", dig, 10, 7, 4);
        dig.dig(2);
        heights("10, 7, 3 slides at 2, and then at 1", dig, 9, 7, 4);
        Check.same("slides()", dig.slides(), 2);
        SofaDig back = Check.taught("seats 3 layers 10;");
        back.prop(2);
        digs(back, 1, 4);
        digs(back, 0, 7);
        heights("at first", back, 3, 6, 10);
        Check.same("takeProp(2)", back.takeProp(2), 2);
        heights("3, 6, 10 slides at 1, and then at 0", back, 4, 6, 9);
        Check.same("topStratum(0)", back.topStratum(0), 9);
    }

    /** What slid to the right can slide to the left again, and is loose all the time. */
    private static void slidBack() {
        SofaDig dig = Check.taught("seats 2 layers 8;coin in 0,7 year 1;");
        digs(dig, 1, 4);
        heights("slid to the right", dig, 7, 5);
        Check.same("topStratum(1)", dig.topStratum(1), 7);
        digs(dig, 0, 5);
        heights("ahead of the slide back", dig, 2, 5);
        Check.same("slides() ahead of it", dig.slides(), 1);
        dig.dig(0);
        heights("slid to the left", dig, 2, 4);
        Check.same("slides()", dig.slides(), 2);
        Check.same("topStratum(0)", dig.topStratum(0), 7);
        Check.same("isTopLoose(0)", dig.isTopLoose(0), true);
        Check.same("isTopLoose(1)", dig.isTopLoose(1), false);
        Check.same("dig(0)", dig.dig(0), 0);
        Check.same("isSure(0)", dig.isSure(0), false);
        Check.same("isTopLoose(0) below it", dig.isTopLoose(0), false);
    }

    /** "with its find and all that it has" */
    private static void whatItHolds() {
        SofaDig dig = Check.taught("seats 2 layers 4;coin in 0,3 year 8;coin in 0,0 year 9;");
        digs(dig, 1, 4);
        Check.same("findsLeft(0)", dig.findsLeft(0), 1);
        Check.same("findsLeft(1)", dig.findsLeft(1), 1);
        Check.same("buriedUnder(0)", dig.buriedUnder(0), 0);
        Check.same("buriedUnder(1)", dig.buriedUnder(1), 2);
        Check.same("stratumOf(0)", dig.stratumOf(0), 3);
        Check.same("topStratum(1)", dig.topStratum(1), 3);
        Check.same("found()", dig.found(), 0);
        Check.same("dig(1)", dig.dig(1), 0);
        Check.same("isSure(0)", dig.isSure(0), false);
        Check.same("yearOf(0)", dig.yearOf(0), 8);
        Check.same("stratumOf(0) of a found one", dig.stratumOf(0), 3);
    }

    /** A cushion on which a loose one lay is none by that. */
    private static void belowLooseOnes() {
        SofaDig dig = Check.taught("seats 3 layers 8;coin in 2,7 year 1;coin in 1,3 year 2;");
        digs(dig, 1, 5);
        heights("the coin slid", dig, 7, 5, 7);
        Check.same("slides()", dig.slides(), 2);
        Check.same("isTopLoose(1)", dig.isTopLoose(1), true);
        Check.same("buriedUnder(0)", dig.buriedUnder(0), 0);
        Check.same("buriedUnder(1)", dig.buriedUnder(1), 1);
        Check.same("dig(1) of the loose coin", dig.dig(1), 0);
        Check.same("isTopLoose(1) below it", dig.isTopLoose(1), false);
        Check.same("dig(1) of the other one", dig.dig(1), 1);
        Check.same("isSure(0)", dig.isSure(0), false);
        Check.same("isSure(1)", dig.isSure(1), true);
        Check.same("sureFinds()", dig.sureFinds(), 1);
        Check.same("found()", dig.found(), 2);
    }

    /** "there are at most 3 at a time" */
    private static void mostProps() {
        for (int first = 0; first < 8; first++) {
            SofaDig dig = Check.taught("seats 8 layers 2;");
            for (int i = 0; i < 3; i++) {
                Check.same("prop as the prop " + i, dig.prop((first + i) % 8), i + 1);
                Check.same("props()", dig.props(), i + 1);
            }
            for (int i = 0; i < 8; i++) {
                int seat = (first + i) % 8;
                Check.due("prop(" + seat + ") with 3", () -> dig.prop(seat), Check.STATE);
                Check.same("isPropped(" + seat + ") with 3", dig.isPropped(seat), i < 3);
            }
            Check.same("props() with 3", dig.props(), 3);
            Check.same("takeProp", dig.takeProp((first + 1) % 8), 0);
            Check.same("prop of another one", dig.prop((first + 5) % 8), 3);
        }
    }

    private static void fewerSeatsThanProps() {
        SofaDig dig = Check.taught("seats 2 layers 2;");
        Check.same("prop(0)", dig.prop(0), 1);
        Check.same("prop(1)", dig.prop(1), 2);
        Check.due("prop(0) again", () -> dig.prop(0), Check.STATE);
        Check.due("prop(1) again", () -> dig.prop(1), Check.STATE);
        Check.due("prop(2)", () -> dig.prop(2), Check.INDEX);
        Check.same("props()", dig.props(), 2);
    }

    /** "it is propped, if it has no prop, and there are fewer than 3", "its prop is taken away, if it has one" */
    private static void propsOfOrders() {
        SofaDig dig = Check.taught("seats 5 layers 2;prop 0;prop 0;prop 1;prop 2;prop 3;free 3;free 2;free 2;prop 4;");
        dig.passDays(1);
        Check.same("ordersCarriedOut()", dig.ordersCarriedOut(), 5);
        Check.same("props()", dig.props(), 3);
        for (int seat = 0; seat < 5; seat++) {
            Check.same("isPropped(" + seat + ")", dig.isPropped(seat), seat == 0 || seat == 1 || seat == 4);
        }
        dig.passDays(1);
        // Nothing but free and prop of the seats that change: 2 is not propped any more, for 3 are.
        Check.same("ordersCarriedOut() on the second day", dig.ordersCarriedOut(), 5);
        SofaDig slides = Check.taught("seats 2 layers 8;free 0;");
        slides.prop(0);
        digs(slides, 1, 8);
        slides.passDays(1);
        Check.same("slides() behind free", slides.slides(), 3);
        Check.same("ordersCarriedOut() of free", slides.ordersCarriedOut(), 1);
    }

    /** "Returns how many slid": none, and many. */
    private static void takingProps() {
        for (int dug = 0; dug <= 10; dug++) {
            SofaDig dig = Check.taught("seats 2 layers 10;");
            dig.prop(0);
            digs(dig, 1, dug);
            int slid = Math.max(0, (dug - 2) / 2);
            Check.same("takeProp(0) beside " + (10 - dug), dig.takeProp(0), slid);
            heights("behind takeProp(0)", dig, 10 - slid, 10 - dug + slid);
            Check.due("takeProp(0) again", () -> dig.takeProp(0), Check.STATE);
            Check.same("slides()", dig.slides(), slid);
            Check.same("props()", dig.props(), 0);
        }
    }
}
