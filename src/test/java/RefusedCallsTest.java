import java.util.function.Consumer;
import java.util.function.ToLongFunction;

/**
 * "A method that throws an exception changes nothing. If several exceptions apply, the
 * one that is named first is thrown.": each refused call, in sofas of many kinds.
 */
public final class RefusedCallsTest {
    /** A call of a number, which the document lets throw. */
    private record Call(String name, CallOfNumber call) {
    }

    private interface CallOfNumber {
        long of(SofaDig dig, int number);
    }

    private static final Call PROP = new Call("prop", (dig, n) -> dig.prop(n));
    private static final Call TAKE_PROP = new Call("takeProp", (dig, n) -> dig.takeProp(n));
    private static final Call IS_SURE = new Call("isSure", (dig, n) -> Check.bit(dig.isSure(n)));
    private static final Call YEAR_OF = new Call("yearOf", (dig, n) -> dig.yearOf(n));
    private static final Call EMPIRE_OF = new Call("empireOf", (dig, n) -> dig.empireOf(n));
    private static final Call BURIED_UNDER = new Call("buriedUnder", (dig, n) -> dig.buriedUnder(n));
    private static final Call IS_SEEN_IN = new Call("isSeenIn of 0 and the empire", (dig, n) -> Check.bit(dig.isSeenIn(0, n)));
    private static final Call[] OF_SEATS = {
        new Call("heightOf", (dig, n) -> dig.heightOf(n)),
        new Call("isPropped", (dig, n) -> Check.bit(dig.isPropped(n))),
        new Call("findsLeft", (dig, n) -> dig.findsLeft(n)),
        PROP,
        TAKE_PROP,
    };
    private static final Call[] OF_CUSHIONS = {
        new Call("topStratum", (dig, n) -> dig.topStratum(n)),
        new Call("isTopLoose", (dig, n) -> Check.bit(dig.isTopLoose(n))),
        new Call("hasTopSpring", (dig, n) -> Check.bit(dig.hasTopSpring(n))),
        new Call("dig", (dig, n) -> dig.dig(n)),
        new Call("wouldSlide", (dig, n) -> dig.wouldSlide(n)),
    };
    private static final Call[] OF_FINDS = {
        new Call("isCoin", (dig, n) -> Check.bit(dig.isCoin(n))),
        new Call("isFound", (dig, n) -> Check.bit(dig.isFound(n))),
        IS_SURE,
        new Call("stratumOf", (dig, n) -> dig.stratumOf(n)),
        YEAR_OF,
        EMPIRE_OF,
        BURIED_UNDER,
        new Call("daysUntilFound", (dig, n) -> dig.daysUntilFound(n)),
    };
    private static final Call[] OF_STRATA = {
        new Call("notBefore", (dig, n) -> dig.notBefore(n)),
        new Call("isMixed", (dig, n) -> Check.bit(dig.isMixed(n))),
        new Call("isSeenIn of any empire of", (dig, n) -> Check.bit(dig.isSeenIn(n, 0))),
        new Call("isSeenIn of no empire of", (dig, n) -> Check.bit(dig.isSeenIn(n, -1))),
    };
    private static final Call[] OF_DAYS = {
        new Call("passDays", (dig, n) -> dig.passDays(n)),
        new Call("foundAfter", (dig, n) -> dig.foundAfter(n)),
    };

    private final String sofa;
    private final Consumer<SofaDig> life;
    private final int empires;

    private RefusedCallsTest(String sofa, int empires, Consumer<SofaDig> life) {
        this.sofa = sofa;
        this.empires = empires;
        this.life = life;
    }

    public static void main(String[] args) {
        String lively = "seats 3 layers 9;empire a from 1 to 2;empire b from 3 to 4;coin in 0,8 year 5;crumbs in 1,8 of a;crumbs in 2,8 of b;"
            + "coin in 0,7 year 6;coin in 0,0 year 7;spring in 2,8;dig 0;prop day;free 1 when found>2;";
        String greatest = "seats 8 layers 10;" + Texts.empires(6) + Texts.coins(24) + "dig 0;".repeat(8) + "prop 5;".repeat(8);
        new RefusedCallsTest("", 0, dig -> { }).refuseAll();
        new RefusedCallsTest(lively, 2, dig -> { }).refuseAll();
        new RefusedCallsTest(lively, 2, dig -> dig.passDays(6)).refuseAll();
        new RefusedCallsTest(lively, 2, RefusedCallsTest::propAll).refuseAll();
        new RefusedCallsTest("seats 2 layers 2;empire a from 1 to 2;coin in 0,1 year 5;crumbs in 1,1 of a;prop 0;dig 0;", 1, RefusedCallsTest::emptyAll).refuseAll();
        new RefusedCallsTest(greatest, 6, dig -> dig.passDays(2)).refuseAll();
        namedFirst();
        Check.finish();
    }

    private static void propAll(SofaDig dig) {
        for (int seat = 0; seat < 3; seat++) {
            dig.prop(seat);
        }
        for (int i = 0; i < 9; i++) {
            dig.dig(1);
        }
    }

    private static void emptyAll(SofaDig dig) {
        for (int seat = 0; seat < dig.seats(); seat++) {
            while (dig.heightOf(seat) > 0) {
                dig.dig(seat);
            }
        }
    }

    private void refuseAll() {
        SofaDig plain = lived();
        for (int seat : outside(plain.seats())) {
            refuse(seat, Check.INDEX, OF_SEATS);
            refuse(seat, Check.INDEX, OF_CUSHIONS);
        }
        for (int find : outside(plain.finds())) {
            refuse(find, Check.INDEX, OF_FINDS);
        }
        for (int stratum : outside(plain.strata())) {
            refuse(stratum, Check.INDEX, OF_STRATA);
        }
        for (int empire : outside(empires)) {
            refuse(empire, Check.INDEX, IS_SEEN_IN);
        }
        for (int days : new int[] {0, 31, -1, Integer.MIN_VALUE, Integer.MAX_VALUE}) {
            refuse(days, Check.ARGUMENT, OF_DAYS);
        }
        refuseByState(plain);
    }

    private SofaDig lived() {
        SofaDig dig = Check.taught(sofa);
        life.accept(dig);
        return dig;
    }

    private static int[] outside(int size) {
        return new int[] {-1, size, size + 1, Integer.MIN_VALUE, Integer.MAX_VALUE};
    }

    private void refuseByState(SofaDig plain) {
        for (int seat = 0; seat < plain.seats(); seat++) {
            if (plain.heightOf(seat) == 0) {
                refuse(seat, Check.STATE, OF_CUSHIONS);
            }
            if (plain.isPropped(seat) || plain.props() == 3) {
                refuse(seat, Check.STATE, PROP);
            }
            if (!plain.isPropped(seat)) {
                refuse(seat, Check.STATE, TAKE_PROP);
            }
        }
        for (int find = 0; find < plain.finds(); find++) {
            refuse(find, Check.STATE, plain.isCoin(find) ? EMPIRE_OF : YEAR_OF);
            refuse(find, Check.STATE, plain.isFound(find) ? BURIED_UNDER : IS_SURE);
        }
    }

    private void refuse(int number, long due, Call... calls) {
        Twins twins = new Twins().teach(sofa).both(life);
        for (Call call : calls) {
            ToLongFunction<SofaDig> once = dig -> call.call.of(dig, number);
            twins.alone(call.name + " " + number + " in " + sofa, once, due);
        }
        twins.alike("what was refused of " + number).liveOn("what was refused of " + number);
    }

    /** Where a wrong number and the state both forbid a call, the number is told. */
    private static void namedFirst() {
        SofaDig dig = Check.taught("seats 4 layers 2;coin in 0,1 year 1;");
        emptyAll(dig);
        dig.prop(0);
        dig.prop(1);
        dig.prop(3);
        for (int seat : outside(4)) {
            for (Call call : OF_CUSHIONS) {
                Check.due(call.name + " " + seat + " of an empty sofa", () -> call.call.of(dig, seat), Check.INDEX);
            }
            Check.due("prop(" + seat + ") as the fourth", () -> dig.prop(seat), Check.INDEX);
            Check.due("takeProp(" + seat + ")", () -> dig.takeProp(seat), Check.INDEX);
        }
        Check.due("prop(2) as the fourth", () -> dig.prop(2), Check.STATE);
        Check.due("takeProp(2)", () -> dig.takeProp(2), Check.STATE);
        Check.same("props()", dig.props(), 3);
        Check.same("isPropped(2)", dig.isPropped(2), false);
    }
}
