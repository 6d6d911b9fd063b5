/** The edges of days, and of what would be: promises 9, 10 and 35 to 39. */
public final class DayBoundsTest {
    private static final int[] WRONG_DAYS = {0, 31, -1, -30, 32, 1 << 16, Integer.MIN_VALUE, Integer.MAX_VALUE};

    public static void main(String[] args) {
        daysAllowed();
        refusedDays();
        foundInThem();
        foundBehindThem();
        noOrders();
        ordersThatDoNothing();
        diggingEmptySeats();
        asItsTurnComes();
        untilFound();
        foundOnTheThirtieth();
        neverFound();
        foundByOtherMeans();
        fromWhatIs();
        wouldSlide();
        wouldSlideByProps();
        bestByFewestSlides();
        bestByMostFinds();
        bestBySmallestNumber();
        bestWithACushion();
        nothingIsChanged();
        Check.finish();
    }

    /** "days is not 1 to 30" */
    private static void daysAllowed() {
        SofaDig dig = Check.taught("dig 0;");
        int days = 0;
        for (int count = 1; count <= 30; count++) {
            int c = count;
            Check.due("foundAfter(" + c + ")", () -> dig.foundAfter(c), 0);
            Check.due("passDays(" + c + ")", () -> dig.passDays(c), 0);
            days += count;
            Check.same("days()", dig.days(), days);
        }
    }

    private static void refusedDays() {
        for (int days : WRONG_DAYS) {
            Twins twins = new Twins().teach("coin in 0,5 year 1;dig day;prop 3;").both(dig -> dig.prop(1));
            twins.alone("passDays(" + days + ")", dig -> dig.passDays(days), Check.ARGUMENT);
            twins.alone("foundAfter(" + days + ")", dig -> dig.foundAfter(days), Check.ARGUMENT);
            twins.alike("passDays(" + days + ")").liveOn("passDays(" + days + ")");
            SofaDig fresh = new SofaDig();
            Check.due("passDays(" + days + ") of a new object", () -> fresh.passDays(days), Check.ARGUMENT);
            Check.same("days() of a new object", fresh.days(), 0);
        }
    }

    /** "how many finds are found in them", not those of before. */
    private static void foundInThem() {
        SofaDig dig = Check.taught("coin in 0,5 year 1;coin in 1,5 year 1;coin in 2,5 year 1;dig 1 when day=0;dig 2 when day=30;");
        Check.same("dig(0)", dig.dig(0), 0);
        Check.same("passDays(30)", dig.passDays(30), 1);
        Check.same("passDays(1)", dig.passDays(1), 1);
        Check.same("passDays(1) of nothing more", dig.passDays(1), 0);
        Check.same("found()", dig.found(), 3);
        SofaDig all = Check.taught(Texts.coins(24) + "dig 0;dig 1;dig 2;dig 3;");
        Check.same("passDays(6) of 24", all.passDays(6), 24);
    }

    /** "how many finds were found behind them": with those of before. */
    private static void foundBehindThem() {
        SofaDig dig = Check.taught("coin in 0,5 year 1;coin in 1,5 year 1;coin in 2,5 year 1;dig 1 when day=0;dig 2 when day=29;");
        Check.same("foundAfter(1)", dig.foundAfter(1), 1);
        Check.same("dig(0)", dig.dig(0), 0);
        Check.same("foundAfter(1)", dig.foundAfter(1), 2);
        Check.same("foundAfter(29)", dig.foundAfter(29), 2);
        Check.same("foundAfter(30)", dig.foundAfter(30), 3);
        Check.same("found()", dig.found(), 1);
        Check.same("days()", dig.days(), 0);
    }

    private static void noOrders() {
        SofaDig dig = new SofaDig();
        Check.same("passDays(30)", dig.passDays(30), 0);
        Check.same("days()", dig.days(), 30);
        Check.same("ordersCarriedOut()", dig.ordersCarriedOut(), 0);
        Check.same("cushionsDug()", dig.cushionsDug(), 0);
        Check.same("foundAfter(30)", dig.foundAfter(30), 0);
    }

    /** "Each one that does something is carried out." */
    private static void ordersThatDoNothing() {
        SofaDig dig = Check.taught("seats 4 layers 2;free 0;prop 0;prop 0;dig 1 when 1=2;free 1;");
        Check.same("passDays(1)", dig.passDays(1), 0);
        Check.same("ordersCarriedOut()", dig.ordersCarriedOut(), 1);
        Check.same("passDays(1)", dig.passDays(1), 0);
        Check.same("ordersCarriedOut() behind free 0 and prop 0", dig.ordersCarriedOut(), 3);
        Check.same("prop(1) by hand", dig.prop(1), 2);
        Check.same("ordersCarriedOut() behind prop(1)", dig.ordersCarriedOut(), 3);
        Check.same("dig(2) by hand", dig.dig(2), -1);
        Check.same("takeProp(1) by hand", dig.takeProp(1), 0);
        Check.same("ordersCarriedOut() behind both", dig.ordersCarriedOut(), 3);
    }

    /** "it is dug, if it has a cushion" */
    private static void diggingEmptySeats() {
        SofaDig dig = Check.taught("seats 2 layers 2;dig 0;dig 0;dig 0;coin in 0,0 year 1;");
        Check.same("passDays(1)", dig.passDays(1), 1);
        Check.same("ordersCarriedOut()", dig.ordersCarriedOut(), 2);
        Check.same("cushionsDug()", dig.cushionsDug(), 2);
        Check.same("passDays(30)", dig.passDays(30), 0);
        Check.same("ordersCarriedOut() of an empty one", dig.ordersCarriedOut(), 2);
        Check.same("heightOf(0)", dig.heightOf(0), 0);
        Check.same("heightOf(1)", dig.heightOf(1), 2);
    }

    /** "if the test holds as it comes to its turn" */
    private static void asItsTurnComes() {
        SofaDig dig = Check.taught("seats 3 layers 4;coin in 0,3 year 1;dig 1 when found=1;dig 0 when found=0;dig 2 when found=1;dig 2 when day=1;");
        Check.same("passDays(1)", dig.passDays(1), 1);
        Check.same("heightOf(1) told ahead of it", dig.heightOf(1), 4);
        Check.same("heightOf(0)", dig.heightOf(0), 3);
        Check.same("heightOf(2) told behind it", dig.heightOf(2), 3);
    }

    /** "0 if it is now, at most 30; -1 if not by then" */
    private static void untilFound() {
        for (int day = 0; day <= 31; day++) {
            SofaDig dig = Check.taught("seats 2 layers 6;coin in 0,5 year 1;dig 0 when day=" + day + ";");
            int due = day < 30 ? day + 1 : -1;
            Check.same("daysUntilFound(0) by the day " + day, dig.daysUntilFound(0), due);
            Check.same("foundAfter(30) by the day " + day, dig.foundAfter(30), day < 30 ? 1 : 0);
            dig.passDays(1);
            Check.same("daysUntilFound(0) a day later", dig.daysUntilFound(0), day <= 30 ? day : -1);
            dig.passDays(1);
            Check.same("daysUntilFound(0) two days later", dig.daysUntilFound(0), Math.max(0, day - 1));
            Check.same("days()", dig.days(), 2);
        }
    }

    private static void foundOnTheThirtieth() {
        SofaDig dig = Check.taught("seats 4 layers 8;coin in 0,0 year 1;coin in 3,0 year 1;prop 1;prop 2;dig 0 when day/4*4=day;dig 3 when day/4*4=day;");
        // The 8th dig is that of the day 28.
        Check.same("daysUntilFound(0)", dig.daysUntilFound(0), 29);
        Check.same("daysUntilFound(1)", dig.daysUntilFound(1), 29);
        Check.same("passDays(28)", dig.passDays(28), 0);
        Check.same("daysUntilFound(0)", dig.daysUntilFound(0), 1);
        Check.same("passDays(1)", dig.passDays(1), 2);
        Check.same("daysUntilFound(0)", dig.daysUntilFound(0), 0);
    }

    private static void neverFound() {
        SofaDig dig = Check.taught(Texts.coins(24));
        Check.same("daysUntilFound(0)", dig.daysUntilFound(0), -1);
        Check.same("daysUntilFound(23)", dig.daysUntilFound(23), -1);
        Check.due("daysUntilFound(24)", () -> dig.daysUntilFound(24), Check.INDEX);
        Check.same("dig(3)", dig.dig(3), 23);
        Check.same("daysUntilFound(23)", dig.daysUntilFound(23), 0);
        Check.same("daysUntilFound(22)", dig.daysUntilFound(22), -1);
    }

    /** What is found unsurely is found, too. */
    private static void foundByOtherMeans() {
        SofaDig dig = Check.taught("seats 2 layers 4;coin in 0,3 year 1;dig 1;");
        Check.same("daysUntilFound(0)", dig.daysUntilFound(0), 5);
        Check.same("foundAfter(4)", dig.foundAfter(4), 0);
        Check.same("foundAfter(5)", dig.foundAfter(5), 1);
        dig.passDays(5);
        Check.same("isSure(0)", dig.isSure(0), false);
        Check.same("daysUntilFound(0)", dig.daysUntilFound(0), 0);
    }

    /** What would be starts from what is: stacks that slid, loose cushions, sure finds, props. */
    private static void fromWhatIs() {
        SofaDig slid = Check.taught("seats 2 layers 4;coin in 1,3 year 1;dig 0;");
        for (int i = 0; i < 4; i++) {
            slid.dig(0);
        }
        Check.same("heightOf(0) with the coin alone", slid.heightOf(0), 1);
        Check.same("foundAfter(1)", slid.foundAfter(1), 1);
        Check.same("daysUntilFound(0)", slid.daysUntilFound(0), 1);
        String sure = "seats 3 layers 4;empire a from 1 to 2;crumbs in 0,3 of a;coin in 2,3 year 1;dig 2 when seen a;dig 2 when sure 0;dig 1 when day=1;";
        SofaDig loose = Check.taught(sure);
        loose.prop(2);
        for (int i = 0; i < 4; i++) {
            loose.dig(1);
        }
        Check.same("isTopLoose(1)", loose.isTopLoose(1), true);
        Check.same("foundAfter(3) of loose crumbs", loose.foundAfter(3), 1);
        Check.same("daysUntilFound(1) of loose crumbs", loose.daysUntilFound(1), -1);
        SofaDig found = Check.taught(sure);
        Check.same("foundAfter(1) ahead of the crumbs", found.foundAfter(1), 0);
        Check.same("dig(0)", found.dig(0), 0);
        Check.same("foundAfter(1) of sure crumbs", found.foundAfter(1), 2);
        SofaDig props = Check.taught("seats 4 layers 2;coin in 3,1 year 1;prop 3;dig 3 when props<3 or day=2;");
        props.prop(0);
        props.prop(1);
        Check.same("daysUntilFound(0) with 3 props", props.daysUntilFound(0), 3);
        props.takeProp(1);
        Check.same("daysUntilFound(0) with 2 props", props.daysUntilFound(0), 1);
    }

    private static void wouldSlide() {
        int[] slides = {0, 0, 0, 1, 0, 1, 0, 1, 0, 1};
        SofaDig dig = Check.taught("seats 2 layers 10;");
        int slid = 0;
        for (int dug = 0; dug < 10; dug++) {
            Check.same("wouldSlide(1) behind " + dug + " digs", dig.wouldSlide(1), slides[dug]);
            Check.same("wouldSlide(0) behind " + dug + " digs", dig.wouldSlide(0), 0);
            Check.same("slides() behind wouldSlide(1)", dig.slides(), slid);
            dig.dig(1);
            slid += slides[dug];
        }
        Check.same("slides()", dig.slides(), slid);
        SofaDig many = Check.taught("seats 2 layers 10;spring in 0,9;");
        for (int i = 0; i < 10; i++) {
            many.dig(1);
        }
        Check.same("wouldSlide(0) of a spring", many.wouldSlide(0), 3);
        Check.due("wouldSlide(1) of an empty one", () -> many.wouldSlide(1), Check.STATE);
        Check.due("wouldSlide(2) of none", () -> many.wouldSlide(2), Check.INDEX);
    }

    private static void wouldSlideByProps() {
        SofaDig dig = Check.taught("seats 2 layers 4;");
        dig.dig(1);
        dig.dig(1);
        dig.dig(1);
        Check.same("wouldSlide(1)", dig.wouldSlide(1), 1);
        dig.prop(0);
        Check.same("wouldSlide(1) beside a prop", dig.wouldSlide(1), 0);
        dig.takeProp(0);
        dig.prop(1);
        Check.same("wouldSlide(1) of a propped one", dig.wouldSlide(1), 1);
    }

    /** "the fewest cushions", ahead of the finds. */
    private static void bestByFewestSlides() {
        SofaDig dig = Check.taught("seats 2 layers 6;coin in 0,0 year 1;coin in 0,1 year 1;");
        for (int i = 0; i < 3; i++) {
            dig.dig(0);
        }
        Check.same("wouldSlide(0)", dig.wouldSlide(0), 1);
        Check.same("bestDig()", dig.bestDig(), 1);
        dig.prop(1);
        Check.same("bestDig() with a prop", dig.bestDig(), 0);
        SofaDig later = Check.taught("seats 2 layers 6;coin in 1,0 year 1;coin in 1,1 year 1;");
        for (int i = 0; i < 3; i++) {
            later.dig(1);
        }
        Check.same("wouldSlide(1)", later.wouldSlide(1), 1);
        Check.same("bestDig() of the one told first", later.bestDig(), 0);
        SofaDig spring = Check.taught("seats 3 layers 8;spring in 1,7;coin in 1,0 year 1;");
        for (int i = 0; i < 8; i++) {
            spring.dig(0);
        }
        Check.same("heightOf(0)", spring.heightOf(0), 0);
        // Without its spring the seat 1 slides onto the empty one; the seat 2 lets nothing slide.
        Check.same("wouldSlide(1)", spring.wouldSlide(1) > 0, true);
        Check.same("bestDig() beside a spring", spring.bestDig(), 2);
    }

    /** "of several the one with the most finds in its stack" */
    private static void bestByMostFinds() {
        SofaDig dig = Check.taught("seats 3 layers 3;coin in 0,0 year 1;coin in 2,0 year 1;coin in 2,1 year 1;coin in 1,2 year 1;coin in 1,1 year 1;coin in 1,0 year 1;");
        Check.same("bestDig() of 3 finds", dig.bestDig(), 1);
        dig.dig(1);
        Check.same("bestDig() of 2 and 2", dig.bestDig(), 1);
        dig.dig(1);
        Check.same("bestDig() of 1 and 2", dig.bestDig(), 2);
    }

    /** "of several still the smallest number" */
    private static void bestBySmallestNumber() {
        Check.same("bestDig() of a new object", new SofaDig().bestDig(), 0);
        Check.same("bestDig() of 8", Check.taught("seats 8 layers 10;").bestDig(), 0);
        Check.same("bestDig() of two", Check.taught("seats 8 layers 10;coin in 6,0 year 1;coin in 7,9 year 1;").bestDig(), 6);
        Check.same("bestDig() of the last", Check.taught("seats 8 layers 10;coin in 7,9 year 1;").bestDig(), 7);
    }

    /** "the seat with a cushion", "-1 if there is none" */
    private static void bestWithACushion() {
        SofaDig dig = Check.taught("seats 4 layers 2;");
        for (int seat = 0; seat < 4; seat++) {
            Check.same("bestDig()", dig.bestDig(), seat);
            dig.dig(seat);
            Check.same("bestDig() of a single cushion", dig.bestDig(), seat);
            dig.dig(seat);
        }
        Check.same("bestDig() of none", dig.bestDig(), -1);
        Check.same("passDays(30) of none", dig.passDays(30), 0);
        Check.same("bestDig() of none later", dig.bestDig(), -1);
    }

    /** "(nothing is changed)" */
    private static void nothingIsChanged() {
        String sofa = "seats 4 layers 9;empire a from 1 to 2;coin in 1,7 year 5;crumbs in 0,8 of a;crumbs in 2,5 of a;spring in 0,6;"
            + "dig 1;dig day when slides>2;prop 2 when day=1;free 2 when day=3;dig 3 when seen a;";
        Twins twins = new Twins().teach(sofa).both(dig -> {
            dig.passDays(2);
            dig.prop(0);
            dig.dig(1);
        });
        for (int i = 0; i < 4; i++) {
            int n = i;
            twins.alone("foundAfter", dig -> Math.min(0, dig.foundAfter(30 - n)), 0);
            twins.alone("daysUntilFound", dig -> Math.min(-1, dig.daysUntilFound(n % 3)), -1);
            twins.alone("wouldSlide", dig -> Math.min(0, dig.wouldSlide(n)), 0);
            twins.alone("bestDig", dig -> Math.max(3, dig.bestDig()), 3);
            twins.alone("meanYear", dig -> (long) Math.min(0, dig.meanYear()), 0);
            twins.alone("digest", dig -> dig.digest() & 0, 0);
        }
        twins.alike("questions").liveOn("questions");
    }
}
