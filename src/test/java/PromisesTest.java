/** The document's promises one after the other, a method each: ordinary calls, edges and wrong numbers. */
public final class PromisesTest {
    private static final int BLANKS = 0x20202020;
    private static final int[] WRONG_DAYS = {0, 31, -1, Integer.MIN_VALUE, Integer.MAX_VALUE};
    /* Four digs at the seat 1 let the coin 0 slide onto it, six the crumbs 1; the spring behind them stays. */
    private static final String SLOPE = "seats 2 layers 6; empire a from 100 to 200; empire b from 201 to 300;"
        + "coin in 0,5 year 150; crumbs in 0,4 of a; crumbs in 1,4 of b; coin in 1,5 year 7; spring in 0,3;";
    /* Two finds on the first day, one on the second. */
    private static final String PLANNED = "seats 2 layers 6; coin in 0,5 year 1; coin in 0,4 year 2; coin in 1,5 year 3;"
        + "dig 0; dig 1 when found > 0 and day = 0;";

    public static void main(String[] args) {
        promise01NewObject();
        promise02Feed();
        promise03Trim();
        promise04Teach();
        promise05ErrorAt();
        promise06Seats();
        promise07Strata();
        promise08Finds();
        promise09Days();
        promise10OrdersCarriedOut();
        promise11CushionsDug();
        promise12Slides();
        promise13Found();
        promise14SureFinds();
        promise15Props();
        promise16HeightOf();
        promise17IsPropped();
        promise18TopStratum();
        promise19IsTopLoose();
        promise20HasTopSpring();
        promise21FindsLeft();
        promise22IsCoin();
        promise23IsFound();
        promise24IsSure();
        promise25StratumOf();
        promise26YearOf();
        promise27EmpireOf();
        promise28BuriedUnder();
        promise29NotBefore();
        promise30IsSeenIn();
        promise31IsMixed();
        promise32Dig();
        promise33Prop();
        promise34TakeProp();
        promise35PassDays();
        promise36FoundAfter();
        promise37DaysUntilFound();
        promise38WouldSlide();
        promise39BestDig();
        promise40MeanYear();
        promise41Digest();
        Check.finish();
    }

    private interface CallOfNumber {
        long of(int number);
    }

    /** 0 to count - 1 are the numbers of seats, finds, strata or empires; others are refused. */
    private static void onlyBelow(int count, String name, CallOfNumber call) {
        for (int number : new int[] {-1, count, Integer.MIN_VALUE, Integer.MAX_VALUE}) {
            Check.due(name + "(" + number + ")", () -> call.of(number), Check.INDEX);
        }
        Check.same("no index: " + name + "(" + (count - 1) + ")", Check.answer(() -> call.of(count - 1)) == Check.INDEX, false);
        Check.same("no index: " + name + "(0)", Check.answer(() -> call.of(0)) == Check.INDEX, false);
    }

    private static SofaDig digs(SofaDig dig, int seat, int times) {
        for (int i = 0; i < times; i++) {
            dig.dig(seat);
        }
        return dig;
    }

    private static SofaDig slope(int digsAtSeat1) {
        return digs(Check.taught(SLOPE), 1, digsAtSeat1);
    }

    /** Two seats, of which the seat 0 has no cushion any more. */
    private static SofaDig emptied() {
        return digs(Check.taught("seats 2 layers 2; coin in 0,0 year 3; spring in 0,1;"), 0, 2);
    }

    private static void promise01NewObject() {
        SofaDig dig = new SofaDig();
        Check.same("seats() of a new object", dig.seats(), 4);
        Check.same("strata() of a new object", dig.strata(), 6);
        Check.same("finds() of a new object", dig.finds(), 0);
        Check.same("passDays(30) of a new object", dig.passDays(30), 0);
        Check.same("ordersCarriedOut() of a new object", dig.ordersCarriedOut(), 0);
        Check.same("props() of a new object", dig.props(), 0);
        for (int stratum = 5; stratum >= 0; stratum--) {
            for (int seat = 0; seat < 4; seat++) {
                Check.same("heightOf(" + seat + ")", dig.heightOf(seat), stratum + 1);
                Check.same("topStratum(" + seat + ")", dig.topStratum(seat), stratum);
                Check.same("hasTopSpring(" + seat + ")", dig.hasTopSpring(seat), false);
                Check.same("dig(" + seat + ")", dig.dig(seat), -1);
            }
        }
        Check.same("cushionsDug()", dig.cushionsDug(), 24);
    }

    private static void promise02Feed() {
        for (int place = 0; place < 20; place++) {
            int[] words = {BLANKS, BLANKS, BLANKS, BLANKS, BLANKS};
            // No token begins with a question mark, so errorAt() tells where it came to stand.
            words[place / 4] ^= ('?' ^ ' ') << 8 * (3 - place % 4);
            SofaDig dig = new SofaDig();
            Check.same("feed", dig.feed(words[0], words[1], words[2], words[3], words[4]), 20);
            Check.same("teach() of a byte at " + place, dig.teach(), 1);
            Check.same("errorAt() of a byte at " + place, dig.errorAt(), place);
        }
        SofaDig full = new SofaDig();
        for (int bytes = 20; bytes <= 2000; bytes += 20) {
            Check.same("feed", full.feed(BLANKS, BLANKS, BLANKS, BLANKS, BLANKS), bytes);
        }
        Check.due("feed to 2020", () -> full.feed(BLANKS, BLANKS, BLANKS, BLANKS, BLANKS), Check.STATE);
        Check.due("trim(2001)", () -> full.trim(2001), Check.ARGUMENT);
        full.trim(1981);
        Check.due("feed to 2001", () -> full.feed(BLANKS, BLANKS, BLANKS, BLANKS, BLANKS), Check.STATE);
        full.trim(1980);
        Check.due("feed to 2000", () -> full.feed(BLANKS, BLANKS, BLANKS, BLANKS, BLANKS), 2000);
    }

    private static void promise03Trim() {
        SofaDig dig = new SofaDig();
        Check.due("trim(0) of nothing", () -> dig.trim(0), 0);
        Check.due("trim(1) of nothing", () -> dig.trim(1), Check.ARGUMENT);
        Check.feedText(dig, "dig 0; dig;");
        for (int n : new int[] {-1, 12, Integer.MIN_VALUE, Integer.MAX_VALUE}) {
            Check.due("trim(" + n + ") of 11 bytes", () -> dig.trim(n), Check.ARGUMENT);
        }
        Check.due("trim(11) of 11 bytes", () -> dig.trim(11), 11);
        Check.due("trim(6) of 11 bytes", () -> dig.trim(6), 6);
        Check.due("trim(7) of 6 bytes", () -> dig.trim(7), Check.ARGUMENT);
        Check.same("teach() of what is kept", dig.teach(), 0);
        dig.passDays(1);
        Check.same("cushionsDug() by what is kept", dig.cushionsDug(), 1);
    }

    private static void promise04Teach() {
        SofaDig dig = Check.taught("seats 3 layers 5; coin in 2,4 year 1; dig 2;");
        dig.prop(1);
        dig.passDays(2);
        String[] faulty = {"dig 1", "empire a from 1 to 2; empire a from 1 to 2;", "crumbs in 0,1 of a;", "dig 1;".repeat(17), "seats 9 layers 5;"};
        for (int error = 1; error <= 5; error++) {
            long digest = dig.digest();
            Check.same("teach() of an error " + error, Check.teachText(dig, faulty[error - 1]), error);
            Check.due("trim(1) behind an error " + error, () -> dig.trim(1), Check.ARGUMENT);
            Check.same("digest() behind an error " + error, dig.digest(), digest);
            Check.same("found() behind an error " + error, dig.found(), 1);
        }
        Check.same("passDays(1) of the plan that stayed", dig.passDays(1), 0);
        Check.same("cushionsDug() of the plan that stayed", dig.cushionsDug(), 3);
        Check.same("teach()", Check.teachText(dig, "prop 3;"), 0);
        Check.due("trim(1) behind teach()", () -> dig.trim(1), Check.ARGUMENT);
        int[] got = {dig.seats(), dig.strata(), dig.finds(), dig.days(), dig.ordersCarriedOut(), dig.cushionsDug(), dig.found(), dig.props(), dig.heightOf(2)};
        int[] due = {4, 6, 0, 0, 0, 0, 0, 0, 6};
        for (int i = 0; i < due.length; i++) {
            Check.same("count " + i + " anew", got[i], due[i]);
        }
        Check.same("isPropped(1) anew", dig.isPropped(1), false);
        dig.passDays(1);
        Check.same("isPropped(3) by the new plan", dig.isPropped(3), true);
        Check.same("cushionsDug() by the new plan", dig.cushionsDug(), 0);
    }

    private static void promise05ErrorAt() {
        Check.same("errorAt() of a new object", new SofaDig().errorAt(), -1);
        Check.fails(1, "dig 1^");
        Check.fails(1, "\n^Dig 1;");
        Check.fails(2, "empire a from 1 to 2; empire ^a from 1 to 2;");
        Check.fails(3, "crumbs in 0,1 of ^a;");
        Check.fails(4, "dig 1;".repeat(16) + "^dig 1;");
        Check.fails(5, "seats ^9 layers 5;");
        SofaDig dig = new SofaDig();
        Check.teachText(dig, "coin in 0,1 year 1000;");
        Check.same("errorAt() behind an error", dig.errorAt(), 17);
        Check.feedText(dig, "dig 1;");
        Check.same("errorAt() behind feed and trim", dig.errorAt(), 17);
        dig.teach();
        Check.same("errorAt() behind a teach() without one", dig.errorAt(), -1);
    }

    private static void promise06Seats() {
        SofaDig dig = Check.taught("seats 2 layers 9;");
        Check.same("seats()", dig.seats(), 2);
        Check.teachText(dig, "seats 1 layers 9;");
        Check.same("seats() behind an error", dig.seats(), 2);
        Check.teachText(dig, "seats 8 layers 2;");
        Check.same("seats()", dig.seats(), 8);
        Check.teachText(dig, "dig 0;");
        Check.same("seats() that are not told", dig.seats(), 4);
    }

    private static void promise07Strata() {
        SofaDig dig = Check.taught("seats 2 layers 10;");
        Check.same("strata()", dig.strata(), 10);
        digs(dig, 1, 3);
        Check.same("strata() of lower stacks", dig.strata(), 10);
        Check.teachText(dig, "seats 2 layers 11;");
        Check.same("strata() behind an error", dig.strata(), 10);
        Check.teachText(dig, "seats 8 layers 2;");
        Check.same("strata()", dig.strata(), 2);
        Check.teachText(dig, "dig 0;");
        Check.same("strata() that are not told", dig.strata(), 6);
    }

    private static void promise08Finds() {
        Check.same("finds() of coins and crumbs", slope(0).finds(), 4);
        Check.same("finds() that were found", slope(7).finds(), 4);
        Check.same("finds() of springs", Check.taught("spring in 0,0; spring in 1,0;").finds(), 0);
        Check.same("finds() of 24", Check.taught(Texts.coins(24)).finds(), 24);
    }

    private static void promise09Days() {
        SofaDig dig = Check.taught("dig 0; coin in 0,0 year 1;");
        Check.same("days() at first", dig.days(), 0);
        dig.passDays(1);
        Check.same("days()", dig.days(), 1);
        dig.foundAfter(30);
        dig.daysUntilFound(0);
        dig.dig(1);
        Check.same("days() behind questions and a dig by hand", dig.days(), 1);
        dig.passDays(30);
        Check.same("days()", dig.days(), 31);
        dig.teach();
        Check.same("days() anew", dig.days(), 0);
    }

    private static void promise10OrdersCarriedOut() {
        SofaDig dig = Check.taught("seats 2 layers 2; dig 0; prop 1; free 1 when day = 1; dig 1 when day > 50;");
        // 2 on the first day; dig and free on the second; prop on the third; nothing on the fourth.
        int[] due = {2, 4, 5, 5};
        for (int day = 0; day < due.length; day++) {
            dig.passDays(1);
            Check.same("ordersCarriedOut() behind the day " + day, dig.ordersCarriedOut(), due[day]);
        }
        dig.takeProp(1);
        dig.dig(1);
        dig.foundAfter(30);
        Check.same("ordersCarriedOut() behind calls by hand", dig.ordersCarriedOut(), 5);
    }

    private static void promise11CushionsDug() {
        SofaDig dig = Check.taught("seats 2 layers 6; dig 1; dig 0 when day > 50;");
        Check.same("cushionsDug() at first", dig.cushionsDug(), 0);
        digs(dig, 1, 3);
        Check.same("cushionsDug() by hand", dig.cushionsDug(), 3);
        dig.wouldSlide(1);
        dig.foundAfter(5);
        Check.same("cushionsDug() behind questions", dig.cushionsDug(), 3);
        dig.passDays(1);
        Check.same("cushionsDug() by an order, where one slid too", dig.cushionsDug(), 4);
    }

    private static void promise12Slides() {
        SofaDig dig = Check.taught("seats 2 layers 6; dig 1;");
        digs(dig, 1, 3);
        Check.same("slides() of 6, 3", dig.slides(), 0);
        digs(dig, 1, 1);
        Check.same("slides() behind 6, 2", dig.slides(), 1);
        dig.passDays(1);
        Check.same("slides() of 5, 2", dig.slides(), 1);
        dig.passDays(1);
        Check.same("slides() behind 5, 1", dig.slides(), 2);
        dig.prop(0);
        digs(dig, 1, 2);
        Check.same("slides() of 4, 0 with a prop", dig.slides(), 2);
        dig.takeProp(0);
        Check.same("slides() behind 4, 0 without one", dig.slides(), 3);
        Check.same("slides() of a seat with a spring", slope(8).slides(), 2);
    }

    private static void promise13Found() {
        int[] due = {0, 1, 2, 2, 2, 3, 3, 4};
        for (int times = 0; times < due.length; times++) {
            Check.same("found() behind digs: " + times, slope(times).found(), due[times]);
        }
        SofaDig dig = Check.taught(PLANNED);
        dig.passDays(1);
        Check.same("found() by orders", dig.found(), 2);
        dig.foundAfter(30);
        Check.same("found() behind a question", dig.found(), 2);
    }

    private static void promise14SureFinds() {
        int[] due = {0, 1, 2, 2, 2, 2, 2, 2};
        for (int times = 0; times < due.length; times++) {
            Check.same("sureFinds() behind digs: " + times, slope(times).sureFinds(), due[times]);
        }
        SofaDig dig = Check.taught(PLANNED);
        dig.passDays(2);
        Check.same("sureFinds() by orders", dig.sureFinds(), 3);
    }

    private static void promise15Props() {
        SofaDig dig = Check.taught("seats 5 layers 2; prop 0; prop 1; prop 2; prop 3; free 0 when day = 1;");
        Check.same("props() at first", dig.props(), 0);
        dig.prop(4);
        Check.same("props() by hand", dig.props(), 1);
        dig.passDays(1);
        Check.same("props(), no more than 3", dig.props(), 3);
        dig.passDays(1);
        Check.same("props() behind a free", dig.props(), 2);
        dig.takeProp(4);
        Check.same("props() behind takeProp", dig.props(), 1);
    }

    private static void promise16HeightOf() {
        int[] high = {6, 6, 6, 6, 5, 5, 4};
        int[] low = {6, 5, 4, 3, 3, 2, 2};
        for (int times = 0; times < high.length; times++) {
            Check.same("heightOf(0) behind digs: " + times, slope(times).heightOf(0), high[times]);
            Check.same("heightOf(1) behind digs: " + times, slope(times).heightOf(1), low[times]);
        }
        Check.same("heightOf(0) of none", emptied().heightOf(0), 0);
        SofaDig dig = slope(0);
        onlyBelow(2, "heightOf", dig::heightOf);
    }

    private static void promise17IsPropped() {
        SofaDig dig = Check.taught("seats 3 layers 6; prop 1;");
        dig.prop(2);
        boolean[] byHand = {false, false, true};
        boolean[] byOrder = {false, true, true};
        for (int seat = 0; seat < 3; seat++) {
            Check.same("isPropped(" + seat + ") by hand", dig.isPropped(seat), byHand[seat]);
        }
        dig.passDays(1);
        for (int seat = 0; seat < 3; seat++) {
            Check.same("isPropped(" + seat + ") by an order", dig.isPropped(seat), byOrder[seat]);
        }
        dig.takeProp(2);
        Check.same("isPropped(2) behind takeProp", dig.isPropped(2), false);
        onlyBelow(3, "isPropped", seat -> Check.bit(dig.isPropped(seat)));
    }

    private static void promise18TopStratum() {
        Check.same("topStratum(1)", slope(0).topStratum(1), 5);
        Check.same("topStratum(1)", slope(3).topStratum(1), 2);
        Check.same("topStratum(1) of what slid", slope(4).topStratum(1), 5);
        Check.same("topStratum(0) below what slid", slope(4).topStratum(0), 4);
        SofaDig empty = emptied();
        Check.due("topStratum(0) of none", () -> empty.topStratum(0), Check.STATE);
        onlyBelow(2, "topStratum", empty::topStratum);
    }

    private static void promise19IsTopLoose() {
        Check.same("isTopLoose(1)", slope(3).isTopLoose(1), false);
        Check.same("isTopLoose(1) of what slid", slope(4).isTopLoose(1), true);
        Check.same("isTopLoose(0) below what slid", slope(4).isTopLoose(0), false);
        Check.same("isTopLoose(1) behind it", slope(5).isTopLoose(1), false);
        SofaDig empty = emptied();
        Check.due("isTopLoose(0) of none", () -> Check.bit(empty.isTopLoose(0)), Check.STATE);
        onlyBelow(2, "isTopLoose", seat -> Check.bit(empty.isTopLoose(seat)));
    }

    private static void promise20HasTopSpring() {
        SofaDig dig = Check.taught(SLOPE);
        boolean[] due = {false, false, true, false};
        for (boolean so : due) {
            Check.same("hasTopSpring(0)", dig.hasTopSpring(0), so);
            Check.same("hasTopSpring(1)", dig.hasTopSpring(1), false);
            dig.dig(0);
        }
        SofaDig empty = emptied();
        Check.due("hasTopSpring(0) of none", () -> Check.bit(empty.hasTopSpring(0)), Check.STATE);
        onlyBelow(2, "hasTopSpring", seat -> Check.bit(empty.hasTopSpring(seat)));
    }

    private static void promise21FindsLeft() {
        int[] high = {2, 2, 2, 2, 1, 1, 0, 0};
        int[] low = {2, 1, 0, 0, 1, 0, 1, 0};
        for (int times = 0; times < high.length; times++) {
            Check.same("findsLeft(0) behind digs: " + times, slope(times).findsLeft(0), high[times]);
            Check.same("findsLeft(1) behind digs: " + times, slope(times).findsLeft(1), low[times]);
        }
        Check.same("findsLeft(0) of no cushion", emptied().findsLeft(0), 0);
        SofaDig dig = slope(0);
        onlyBelow(2, "findsLeft", dig::findsLeft);
    }

    private static void promise22IsCoin() {
        boolean[] due = {true, false, false, true};
        for (int find = 0; find < 4; find++) {
            Check.same("isCoin(" + find + ")", slope(0).isCoin(find), due[find]);
            Check.same("isCoin(" + find + ") of what was found", slope(7).isCoin(find), due[find]);
        }
        SofaDig dig = slope(0);
        onlyBelow(4, "isCoin", find -> Check.bit(dig.isCoin(find)));
        SofaDig none = new SofaDig();
        Check.due("isCoin(0) without finds", () -> Check.bit(none.isCoin(0)), Check.INDEX);
    }

    private static void promise23IsFound() {
        int[] foundBehind = {5, 7, 2, 1};
        for (int times = 0; times <= 7; times++) {
            SofaDig dig = slope(times);
            dig.foundAfter(30);
            for (int find = 0; find < 4; find++) {
                Check.same("isFound(" + find + ") behind digs: " + times, dig.isFound(find), times >= foundBehind[find]);
            }
        }
        SofaDig dig = slope(1);
        onlyBelow(4, "isFound", find -> Check.bit(dig.isFound(find)));
    }

    private static void promise24IsSure() {
        SofaDig none = slope(0);
        SofaDig all = slope(7);
        boolean[] due = {false, false, true, true};
        for (int find = 0; find < 4; find++) {
            int f = find;
            Check.due("isSure(" + find + ") of what was not found", () -> Check.bit(none.isSure(f)), Check.STATE);
            Check.due("isSure(" + find + ")", () -> Check.bit(all.isSure(f)), Check.bit(due[find]));
        }
        onlyBelow(4, "isSure", find -> Check.bit(none.isSure(find)));
    }

    private static void promise25StratumOf() {
        int[] due = {5, 4, 4, 5};
        for (int times = 0; times <= 7; times++) {
            for (int find = 0; find < 4; find++) {
                Check.same("stratumOf(" + find + ") behind digs: " + times, slope(times).stratumOf(find), due[find]);
            }
        }
        SofaDig dig = slope(0);
        onlyBelow(4, "stratumOf", dig::stratumOf);
    }

    private static void promise26YearOf() {
        SofaDig dig = slope(1);
        long[] due = {150, Check.STATE, Check.STATE, 7};
        for (int find = 0; find < 4; find++) {
            int f = find;
            Check.due("yearOf(" + find + ")", () -> dig.yearOf(f), due[find]);
        }
        onlyBelow(4, "yearOf", dig::yearOf);
        SofaDig ends = Check.taught("coin in 0,0 year 0; coin in 0,1 year 999;");
        Check.due("yearOf(0)", () -> ends.yearOf(0), 0);
        Check.due("yearOf(1)", () -> ends.yearOf(1), 999);
    }

    private static void promise27EmpireOf() {
        SofaDig dig = slope(2);
        long[] due = {Check.STATE, 0, 1, Check.STATE};
        for (int find = 0; find < 4; find++) {
            int f = find;
            Check.due("empireOf(" + find + ")", () -> dig.empireOf(f), due[find]);
        }
        onlyBelow(4, "empireOf", dig::empireOf);
    }

    private static void promise28BuriedUnder() {
        SofaDig dig = Check.taught("seats 2 layers 6; coin in 1,0 year 1; coin in 0,4 year 2;");
        // The fourth dig takes one from above the coin 0, and lets another slide onto it.
        int[] low = {5, 4, 3, 2, 2, 1, 1};
        int[] high = {1, 1, 1, 1, 0, 0, 0};
        for (int times = 0; times < low.length; times++) {
            Check.due("buriedUnder(0) behind digs: " + times, () -> dig.buriedUnder(0), low[times]);
            Check.due("buriedUnder(1) behind digs: " + times, () -> dig.buriedUnder(1), high[times]);
            dig.dig(1);
        }
        // The seventh took the coin 1, which had slid above the coin 0.
        Check.due("buriedUnder(1) of what was found", () -> dig.buriedUnder(1), Check.STATE);
        Check.due("buriedUnder(0) below it", () -> dig.buriedUnder(0), 0);
        onlyBelow(2, "buriedUnder", dig::buriedUnder);
    }

    private static void promise29NotBefore() {
        years(slope(0), -1, -1, -1, -1, -1, -1);
        years(slope(1), -1, -1, -1, -1, -1, 7);
        years(slope(2), -1, -1, -1, -1, 201, 201);
        years(slope(7), -1, -1, -1, -1, 201, 201);
        SofaDig greater = digs(Check.taught("seats 2 layers 6; coin in 0,5 year 900; coin in 1,5 year 0;"), 1, 5);
        Check.same("found() with the loose coin", greater.found(), 2);
        years(greater, -1, -1, -1, -1, -1, 0);
        onlyBelow(6, "notBefore", greater::notBefore);
    }

    private static void years(SofaDig dig, int... due) {
        for (int stratum = 0; stratum < due.length; stratum++) {
            Check.same("notBefore(" + stratum + ")", dig.notBefore(stratum), due[stratum]);
        }
    }

    private static void promise30IsSeenIn() {
        for (int times = 0; times <= 7; times++) {
            SofaDig dig = slope(times);
            for (int stratum = 0; stratum < 6; stratum++) {
                // The crumbs of the empire 0 slide, and are never sure.
                Check.same("isSeenIn(" + stratum + ", 0) behind digs: " + times, dig.isSeenIn(stratum, 0), false);
                Check.same("isSeenIn(" + stratum + ", 1) behind digs: " + times, dig.isSeenIn(stratum, 1), stratum == 4 && times >= 2);
            }
        }
        SofaDig dig = slope(0);
        onlyBelow(6, "isSeenIn of the empire 0", stratum -> Check.bit(dig.isSeenIn(stratum, 0)));
        onlyBelow(2, "isSeenIn of the stratum 5", empire -> Check.bit(dig.isSeenIn(5, empire)));
        SofaDig none = new SofaDig();
        Check.due("isSeenIn(0, 0) without empires", () -> Check.bit(none.isSeenIn(0, 0)), Check.INDEX);
    }

    private static void promise31IsMixed() {
        SofaDig dig = Check.taught("seats 2 layers 6; empire a from 100 to 200; empire b from 201 to 300; empire c from 200 to 250;"
            + "crumbs in 0,5 of b; crumbs in 1,5 of a; crumbs in 0,4 of a; crumbs in 1,4 of c;");
        dig.dig(0);
        Check.same("isMixed(5) of one empire", dig.isMixed(5), false);
        dig.dig(1);
        Check.same("isMixed(5)", dig.isMixed(5), true);
        Check.same("isMixed(4)", dig.isMixed(4), false);
        dig.dig(0);
        dig.dig(1);
        // The empire a ended in the year in which c began, not ahead of it.
        Check.same("isMixed(4)", dig.isMixed(4), false);
        Check.same("isMixed(4) by unsure crumbs", slope(7).isMixed(4), false);
        onlyBelow(6, "isMixed", stratum -> Check.bit(dig.isMixed(stratum)));
    }

    private static void promise32Dig() {
        SofaDig dig = Check.taught(SLOPE);
        int[] due = {3, 2, -1, -1, 0, -1, 1, -1};
        for (int times = 0; times < due.length; times++) {
            Check.same("dig(1) behind digs: " + times, dig.dig(1), due[times]);
        }
        Check.same("heightOf(1)", dig.heightOf(1), 0);
        // The spring is the highest one of the seat 0, and nothing slides onto the seat 1.
        Check.due("dig(1) of no cushion", () -> dig.dig(1), Check.STATE);
        Check.same("cushionsDug()", dig.cushionsDug(), 8);
        SofaDig propped = Check.taught(SLOPE);
        propped.prop(0);
        Check.same("dig(0) of a propped seat", propped.dig(0), 0);
        Check.same("topStratum(0) of a propped seat", propped.topStratum(0), 4);
        onlyBelow(2, "dig", propped::dig);
    }

    private static void promise33Prop() {
        SofaDig dig = Check.taught("seats 5 layers 2;");
        Check.due("prop(4)", () -> dig.prop(4), 1);
        Check.due("prop(4) again", () -> dig.prop(4), Check.STATE);
        Check.due("prop(0)", () -> dig.prop(0), 2);
        Check.due("prop(1)", () -> dig.prop(1), 3);
        Check.due("a fourth prop", () -> dig.prop(2), Check.STATE);
        Check.due("a fourth prop at no seat", () -> dig.prop(5), Check.INDEX);
        Check.same("props()", dig.props(), 3);
        Check.same("isPropped(2)", dig.isPropped(2), false);
        SofaDig empty = emptied();
        Check.due("prop(0) of no cushion", () -> empty.prop(0), 1);
        SofaDig fresh = new SofaDig();
        onlyBelow(4, "prop", fresh::prop);
    }

    private static void promise34TakeProp() {
        SofaDig dig = Check.taught("seats 2 layers 9;");
        Check.due("takeProp(0) of none", () -> dig.takeProp(0), Check.STATE);
        dig.prop(0);
        dig.prop(1);
        digs(dig, 1, 8);
        Check.due("takeProp(1) of the lower seat", () -> dig.takeProp(1), 0);
        // 9, 1 and 8, 2 and 7, 3 let one slide each.
        Check.due("takeProp(0)", () -> dig.takeProp(0), 3);
        Check.same("heightOf(0)", dig.heightOf(0), 6);
        Check.same("heightOf(1)", dig.heightOf(1), 4);
        Check.same("isPropped(0)", dig.isPropped(0), false);
        Check.due("takeProp(0) again", () -> dig.takeProp(0), Check.STATE);
        dig.prop(0);
        digs(dig, 1, 2);
        // 6, 2: those that slid before don't count.
        Check.due("takeProp(0) later", () -> dig.takeProp(0), 1);
        onlyBelow(2, "takeProp", dig::takeProp);
    }

    private static void promise35PassDays() {
        SofaDig dig = Check.taught(PLANNED);
        for (int days : WRONG_DAYS) {
            Check.due("passDays(" + days + ")", () -> dig.passDays(days), Check.ARGUMENT);
        }
        Check.same("days() behind refused ones", dig.days(), 0);
        Check.same("passDays(1)", dig.passDays(1), 2);
        Check.same("passDays(30)", dig.passDays(30), 1);
        Check.same("passDays(1)", dig.passDays(1), 0);
        Check.same("days()", dig.days(), 32);
    }

    private static void promise36FoundAfter() {
        SofaDig dig = Check.taught(PLANNED);
        long digest = dig.digest();
        for (int days : WRONG_DAYS) {
            Check.due("foundAfter(" + days + ")", () -> dig.foundAfter(days), Check.ARGUMENT);
        }
        Check.same("foundAfter(1)", dig.foundAfter(1), 2);
        Check.same("foundAfter(2)", dig.foundAfter(2), 3);
        Check.same("foundAfter(30)", dig.foundAfter(30), 3);
        Check.same("digest() behind foundAfter", dig.digest(), digest);
        dig.dig(0);
        Check.same("foundAfter(1) with what was found by hand", dig.foundAfter(1), 3);
    }

    private static void promise37DaysUntilFound() {
        SofaDig dig = Check.taught("seats 2 layers 10; coin in 0,9 year 1; coin in 1,9 year 2; coin in 1,8 year 3; coin in 1,7 year 4;"
            + "dig 0 when day = 0; dig 1 when day = 29; dig 1 when day = 30;");
        long digest = dig.digest();
        untilFound(dig, 1, 30, -1, -1);
        Check.same("digest() behind daysUntilFound", dig.digest(), digest);
        Check.same("isFound(0) behind daysUntilFound", dig.isFound(0), false);
        dig.passDays(1);
        untilFound(dig, 0, 29, 30, -1);
        dig.dig(1);
        untilFound(dig, 0, 0, 29, 30);
        onlyBelow(4, "daysUntilFound", dig::daysUntilFound);
    }

    private static void untilFound(SofaDig dig, int... due) {
        for (int find = 0; find < due.length; find++) {
            Check.same("daysUntilFound(" + find + ") on the day " + dig.days(), dig.daysUntilFound(find), due[find]);
        }
    }

    private static void promise38WouldSlide() {
        SofaDig dig = Check.taught("seats 4 layers 9;");
        digs(dig, 1, 3);
        digs(dig, 0, 6);
        // 3 6 9 9: one from the seat 1 to the seat 0, then one from 2 to 1.
        Check.same("wouldSlide(0)", dig.wouldSlide(0), 2);
        Check.same("wouldSlide(1)", dig.wouldSlide(1), 1);
        Check.same("wouldSlide(2)", dig.wouldSlide(2), 0);
        dig.prop(2);
        Check.same("wouldSlide(0) with a prop", dig.wouldSlide(0), 1);
        Check.same("wouldSlide(1) with a prop", dig.wouldSlide(1), 0);
        Check.same("slides() behind wouldSlide", dig.slides(), 0);
        Check.same("heightOf(0) behind wouldSlide", dig.heightOf(0), 3);
        dig.dig(0);
        // 3 5 9 9, and the prop at the seat 2: those that slid before don't count.
        Check.same("slides()", dig.slides(), 1);
        Check.same("wouldSlide(1) behind slides", dig.wouldSlide(1), 0);
        SofaDig empty = emptied();
        Check.due("wouldSlide(0) of no cushion", () -> empty.wouldSlide(0), Check.STATE);
        onlyBelow(2, "wouldSlide", empty::wouldSlide);
    }

    private static void promise39BestDig() {
        SofaDig dig = Check.taught("seats 3 layers 6; coin in 1,0 year 1; coin in 1,1 year 1; coin in 2,0 year 1;");
        Check.same("bestDig() by the most finds", dig.bestDig(), 1);
        digs(dig, 1, 3);
        Check.same("bestDig() by the fewest slides", dig.bestDig(), 2);
        Check.same("slides() behind bestDig", dig.slides(), 0);
        Check.same("cushionsDug() behind bestDig", dig.cushionsDug(), 3);
        Check.same("bestDig() with most finds where one slides", digs(Check.taught("seats 2 layers 6; coin in 0,0 year 1;"), 0, 3).bestDig(), 1);
        Check.same("bestDig() by the smallest number", Check.taught("coin in 1,0 year 1; coin in 3,0 year 1;").bestDig(), 1);
        SofaDig empty = emptied();
        Check.same("bestDig() of seats with a cushion", empty.bestDig(), 1);
        digs(empty, 1, 2);
        Check.same("bestDig() of none", empty.bestDig(), -1);
    }

    private static void promise40MeanYear() {
        SofaDig dig = Check.taught("empire a from 900 to 901; coin in 0,5 year 1; coin in 1,5 year 2; coin in 2,5 year 2; crumbs in 3,5 of a;");
        double[] due = {0.0, 1.0, 1.5, 5.0 / 3.0};
        for (int seat = 0; seat < 4; seat++) {
            Check.same("meanYear() of coins: " + seat, dig.meanYear(), due[seat]);
            dig.dig(seat);
        }
        Check.same("meanYear() with crumbs", dig.meanYear(), 5.0 / 3.0);
        Check.same("meanYear() with an unsure coin", slope(5).meanYear(), 7.0);
    }

    private static void promise41Digest() {
        reckoned(new SofaDig(), 4, 6, 0, 0, 0, 0, 0, 0, 0, 0, 6, 0, 0, 5, 6, 0, 0, 5, 6, 0, 0, 5, 6, 0, 0, 5,
            -1, 0, -1, 0, -1, 0, -1, 0, -1, 0, -1, 0);
        SofaDig loose = slope(5);
        loose.prop(0);
        reckoned(loose, 2, 6, 4, 0, 0, 5, 1, 3, 2, 0, 5, 1, 1, 4, 2, 0, 0, 1, 1, 0, 0, 0, 1, 1, 1, 1,
            -1, 0, -1, 0, -1, 0, -1, 0, 201, 0, 201, 0);
        SofaDig best = Check.taught("seats 2 layers 2;");
        best.dig(0);
        best.dig(0);
        reckoned(best, 2, 2, 0, 0, 0, 2, 0, 0, 0, 1, 0, 0, 0, -1, 2, 0, 0, 1, -1, 0, -1, 0);
        SofaDig mixed = Check.taught("seats 2 layers 2; empire a from 5 to 6; empire b from 7 to 8;"
            + "crumbs in 1,1 of a; crumbs in 0,1 of b; coin in 0,0 year 9; dig 1; prop 0;");
        mixed.dig(0);
        mixed.passDays(2);
        reckoned(mixed, 2, 2, 3, 2, 3, 3, 0, 2, 2, 0, 1, 1, 1, 0, 0, 0, 0, -1, 1, 1, 1, 1, 0, 0, -1, 0, 7, 1);
    }

    private static void reckoned(SofaDig dig, int... numbers) {
        long d = 1021;
        for (int x : numbers) {
            d = d * 31 + x;
        }
        Check.same("digest()", dig.digest(), d);
    }
}
