/** Many sofas, taught and dug at both the class and the model: all answers are the same. */
public final class ModelTest {
    private static final int RUNS = 4000;
    /* Behind so many calls of an object the document promises nothing. */
    private static final int MOST_CALLS = 512;
    private static final int SPOILT_TAPES = 3000;

    private ModelTest() {
    }

    public static void main(String[] args) {
        int[] errors = new int[6];
        for (int seed = 1; seed <= SPOILT_TAPES; seed++) {
            errors[readSpoilt(new Dice(seed))]++;
        }
        for (int error = 0; error < errors.length; error++) {
            Check.same("tapes enough with the error " + error, errors[error] >= 50, true);
        }
        int lively = 0;
        for (int seed = 1; seed <= RUNS; seed++) {
            lively += run(new Dice(1000000 + seed));
        }
        Check.same("runs enough with slides", lively >= RUNS / 3, true);
        Check.finish();
    }

    private static int readSpoilt(Dice dice) {
        SofaDig dig = new SofaDig();
        String before = "seats 3 layers 9; coin in 0, 8 year 7; dig day;";
        Check.teachText(dig, before);
        dig.passDays(2);
        long digest = dig.digest();
        String tape = TapeMaker.make(dice, true);
        Model model = Model.read(tape);
        Check.same("teach() of " + tape, Check.teachText(dig, tape), model.error);
        Check.same("errorAt() of " + tape, dig.errorAt(), model.errorPlace);
        Check.same("trim(0)", dig.trim(0), 0);
        Check.due("an empty tape", () -> dig.trim(1), Check.ARGUMENT);
        Check.same("digest() of " + tape, dig.digest(), model.error == 0 ? model.digest() : digest);
        return model.error;
    }

    private static int run(Dice dice) {
        String tape = TapeMaker.make(dice, false);
        Model model = Model.read(tape);
        SofaDig dig = new SofaDig();
        Check.same("teach() of " + tape, Check.teachText(dig, tape), 0);
        Check.same("the model's error of " + tape, model.error, 0);
        int calls = tape.length() / 20 + 5;
        int comparing = 12 + 4 * model.stacks.size() + 7 * model.finds.size() + model.strata * model.empires.size();
        int steps = dice.from(5, 60);
        for (int step = 0; step < steps && calls + 2 + comparing < MOST_CALLS; step++) {
            act(dice, dig, model, tape);
            Check.same("digest() in " + tape, dig.digest(), model.digest());
            calls += 2;
            if (dice.oneIn(4) && calls + 2 * comparing < MOST_CALLS) {
                compare(dig, model, tape);
                calls += comparing;
            }
        }
        compare(dig, model, tape);
        return model.slides > 0 ? 1 : 0;
    }

    private static void act(Dice dice, SofaDig dig, Model model, String tape) {
        int seats = model.stacks.size();
        int seat = dice.from(dice.oneIn(10) ? -1 : 0, dice.oneIn(10) ? seats : seats - 1);
        boolean isSeat = seat >= 0 && seat < seats;
        boolean propped = model.propped.contains(seat);
        switch (dice.below(8)) {
            case 0 -> Check.due("prop(" + seat + ") in " + tape, () -> dig.prop(seat),
                !isSeat ? Check.INDEX : propped || model.propped.size() == 3 ? Check.STATE : propped(model, seat));
            case 1 -> Check.due("takeProp(" + seat + ") in " + tape, () -> dig.takeProp(seat),
                !isSeat ? Check.INDEX : !propped ? Check.STATE : model.free(seat));
            case 2 -> {
                int days = dice.from(0, dice.oneIn(5) ? 31 : 3);
                Check.due("passDays(" + days + ") in " + tape, () -> dig.passDays(days),
                    days < 1 || days > 30 ? Check.ARGUMENT : model.passDays(days));
            }
            default -> Check.due("dig(" + seat + ") in " + tape, () -> dig.dig(seat),
                !isSeat ? Check.INDEX : model.height(seat) == 0 ? Check.STATE : model.dig(seat));
        }
    }

    private static long propped(Model model, int seat) {
        model.prop(seat);
        return model.propped.size();
    }

    private static void compare(SofaDig dig, Model model, String tape) {
        Check.same("digest() in " + tape, dig.digest(), model.digest());
        Check.same("meanYear() in " + tape, dig.meanYear(), model.meanYear());
        Check.same("props()", dig.props(), model.propped.size());
        Check.same("bestDig() in " + tape, dig.bestDig(), model.bestDig());
        for (int days : new int[] {1, 2, 7, 30}) {
            Check.same("foundAfter(" + days + ") in " + tape, dig.foundAfter(days), model.foundAfter(days));
        }
        compareSeats(dig, model, tape);
        compareFinds(dig, model, tape);
        for (int stratum = 0; stratum < model.strata; stratum++) {
            for (int empire = 0; empire < model.empires.size(); empire++) {
                Check.same("isSeenIn in " + tape, dig.isSeenIn(stratum, empire), model.seenIn(stratum).contains(empire));
            }
        }
        Check.same("digest() behind all questions in " + tape, dig.digest(), model.digest());
    }

    private static void compareSeats(SofaDig dig, Model model, String tape) {
        for (int seat = 0; seat < model.stacks.size(); seat++) {
            int s = seat;
            Model.Cushion top = model.top(seat);
            Check.due("topStratum in " + tape, () -> dig.topStratum(s), top == null ? Check.STATE : top.stratum);
            Check.due("isTopLoose in " + tape, () -> Check.bit(dig.isTopLoose(s)), top == null ? Check.STATE : Check.bit(top.loose));
            Check.due("hasTopSpring in " + tape, () -> Check.bit(dig.hasTopSpring(s)), top == null ? Check.STATE : Check.bit(top.spring));
            Check.due("wouldSlide in " + tape, () -> dig.wouldSlide(s), top == null ? Check.STATE : model.wouldSlide(s));
        }
    }

    private static void compareFinds(SofaDig dig, Model model, String tape) {
        for (int find = 0; find < model.finds.size(); find++) {
            int f = find;
            Model.Find due = model.finds.get(find);
            boolean found = model.sureOf.containsKey(find);
            Check.same("isCoin in " + tape, dig.isCoin(find), due.coin());
            Check.same("stratumOf in " + tape, dig.stratumOf(find), due.stratum());
            Check.due("yearOf in " + tape, () -> dig.yearOf(f), due.coin() ? due.year() : Check.STATE);
            Check.due("empireOf in " + tape, () -> dig.empireOf(f), due.coin() ? Check.STATE : due.empire());
            Check.due("isSure in " + tape, () -> Check.bit(dig.isSure(f)), found ? Check.bit(model.isSure(f)) : Check.STATE);
            Check.due("buriedUnder in " + tape, () -> dig.buriedUnder(f), found ? Check.STATE : model.buriedUnder(f));
            Check.same("daysUntilFound in " + tape, dig.daysUntilFound(find), model.daysUntilFound(find));
        }
    }
}
