/** Promise 1: a new object; and what each question answers on it. */
public final class NewObjectTest {
    public static void main(String[] args) {
        SofaDig dig = new SofaDig();
        Check.same("errorAt()", dig.errorAt(), -1);
        plain(dig);
        Check.same("teach() of an empty tape", dig.teach(), 0);
        plain(dig);
        Check.same("trim(0) of an empty tape", dig.trim(0), 0);
        Check.finish();
    }

    private static void plain(SofaDig dig) {
        Check.same("seats()", dig.seats(), 4);
        Check.same("strata()", dig.strata(), 6);
        Check.same("finds()", dig.finds(), 0);
        Check.same("days()", dig.days(), 0);
        Check.same("ordersCarriedOut()", dig.ordersCarriedOut(), 0);
        Check.same("cushionsDug()", dig.cushionsDug(), 0);
        Check.same("slides()", dig.slides(), 0);
        Check.same("found()", dig.found(), 0);
        Check.same("sureFinds()", dig.sureFinds(), 0);
        Check.same("props()", dig.props(), 0);
        for (int seat = 0; seat < 4; seat++) {
            Check.same("heightOf", dig.heightOf(seat), 6);
            Check.same("isPropped", dig.isPropped(seat), false);
            Check.same("topStratum", dig.topStratum(seat), 5);
            Check.same("isTopLoose", dig.isTopLoose(seat), false);
            Check.same("hasTopSpring", dig.hasTopSpring(seat), false);
            Check.same("findsLeft", dig.findsLeft(seat), 0);
            Check.same("wouldSlide", dig.wouldSlide(seat), 0);
        }
        for (int stratum = 0; stratum < 6; stratum++) {
            Check.same("notBefore", dig.notBefore(stratum), -1);
            Check.same("isMixed", dig.isMixed(stratum), false);
        }
        Check.due("isCoin(0)", () -> Check.bit(dig.isCoin(0)), Check.INDEX);
        Check.due("isSeenIn(0, 0)", () -> Check.bit(dig.isSeenIn(0, 0)), Check.INDEX);
        Check.same("bestDig()", dig.bestDig(), 0);
        Check.same("foundAfter(30)", dig.foundAfter(30), 0);
        Check.same("meanYear()", dig.meanYear(), 0.0);
    }
}
