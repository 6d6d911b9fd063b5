import java.util.ArrayList;
import java.util.List;
import java.util.function.LongSupplier;

/** What the face answers of an object, to all questions that there are of its sofa (not errorAt()). */
final class Answers {
    private final SofaDig dig;
    private final List<String> names = new ArrayList<>();
    private final List<Long> values = new ArrayList<>();

    private Answers(SofaDig dig) {
        this.dig = dig;
        int empires = empires();
        counts();
        for (int seat = 0; seat < dig.seats(); seat++) {
            ofSeat(seat);
        }
        for (int find = 0; find < dig.finds(); find++) {
            ofFind(find);
        }
        for (int stratum = 0; stratum < dig.strata(); stratum++) {
            ofStratum(stratum, empires);
        }
    }

    /** Both answer the same; some 350 calls of each for the greatest sofa. */
    static void same(String what, SofaDig one, SofaDig other) {
        Answers got = new Answers(one);
        Answers due = new Answers(other);
        Check.same("how many questions " + what, got.values.size(), due.values.size());
        for (int i = 0; i < Math.min(got.values.size(), due.values.size()); i++) {
            Check.same(got.names.get(i) + " " + what, got.values.get(i), due.values.get(i));
        }
    }

    private void add(String name, LongSupplier question) {
        names.add(name);
        values.add(Check.answer(question));
    }

    private int empires() {
        int empires = 0;
        while (empires <= 6 && isEmpire(empires)) {
            empires++;
        }
        return empires;
    }

    private boolean isEmpire(int empire) {
        return Check.answer(() -> Check.bit(dig.isSeenIn(0, empire))) != Check.INDEX;
    }

    private void counts() {
        add("seats()", dig::seats);
        add("strata()", dig::strata);
        add("finds()", dig::finds);
        add("days()", dig::days);
        add("ordersCarriedOut()", dig::ordersCarriedOut);
        add("cushionsDug()", dig::cushionsDug);
        add("slides()", dig::slides);
        add("found()", dig::found);
        add("sureFinds()", dig::sureFinds);
        add("props()", dig::props);
        add("foundAfter(1)", () -> dig.foundAfter(1));
        add("foundAfter(30)", () -> dig.foundAfter(30));
        add("bestDig()", dig::bestDig);
        add("meanYear()", () -> Double.doubleToLongBits(dig.meanYear()));
        add("digest()", dig::digest);
    }

    private void ofSeat(int seat) {
        add("heightOf(" + seat + ")", () -> dig.heightOf(seat));
        add("isPropped(" + seat + ")", () -> Check.bit(dig.isPropped(seat)));
        add("topStratum(" + seat + ")", () -> dig.topStratum(seat));
        add("isTopLoose(" + seat + ")", () -> Check.bit(dig.isTopLoose(seat)));
        add("hasTopSpring(" + seat + ")", () -> Check.bit(dig.hasTopSpring(seat)));
        add("findsLeft(" + seat + ")", () -> dig.findsLeft(seat));
        add("wouldSlide(" + seat + ")", () -> dig.wouldSlide(seat));
    }

    private void ofFind(int find) {
        add("isCoin(" + find + ")", () -> Check.bit(dig.isCoin(find)));
        add("isFound(" + find + ")", () -> Check.bit(dig.isFound(find)));
        add("isSure(" + find + ")", () -> Check.bit(dig.isSure(find)));
        add("stratumOf(" + find + ")", () -> dig.stratumOf(find));
        add("yearOf(" + find + ")", () -> dig.yearOf(find));
        add("empireOf(" + find + ")", () -> dig.empireOf(find));
        add("buriedUnder(" + find + ")", () -> dig.buriedUnder(find));
        add("daysUntilFound(" + find + ")", () -> dig.daysUntilFound(find));
    }

    private void ofStratum(int stratum, int empires) {
        add("notBefore(" + stratum + ")", () -> dig.notBefore(stratum));
        add("isMixed(" + stratum + ")", () -> Check.bit(dig.isMixed(stratum)));
        for (int empire = 0; empire < empires; empire++) {
            int e = empire;
            add("isSeenIn(" + stratum + ", " + e + ")", () -> Check.bit(dig.isSeenIn(stratum, e)));
        }
    }
}
