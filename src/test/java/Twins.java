import java.util.function.Consumer;
import java.util.function.ToLongFunction;

/**
 * Two objects that live alike, but for calls that the first one alone gets: those
 * that are refused, and those that change nothing. Behind them both answer the same.
 */
final class Twins {
    final SofaDig one = new SofaDig();
    final SofaDig other = new SofaDig();

    Twins both(Consumer<SofaDig> calls) {
        calls.accept(one);
        calls.accept(other);
        return this;
    }

    Twins teach(String text) {
        return both(dig -> Check.same("teach() of " + text, Check.teachText(dig, text), 0));
    }

    Twins feed(String text) {
        return both(dig -> Check.feedText(dig, text));
    }

    /** Only the first one is called. */
    Twins alone(String what, ToLongFunction<SofaDig> call, long due) {
        Check.due(what, () -> call.applyAsLong(one), due);
        return this;
    }

    Twins alike(String what) {
        Check.same("errorAt() behind " + what, one.errorAt(), other.errorAt());
        Answers.same("behind " + what, one, other);
        return this;
    }

    /** The tape has so many bytes still, and reads the same. */
    Twins sameTape(String what, int bytes) {
        Check.due("trim(" + (bytes + 1) + ") behind " + what, () -> one.trim(bytes + 1), Check.ARGUMENT);
        Check.due("trim(" + bytes + ") behind " + what, () -> one.trim(bytes), bytes);
        Check.same("teach() behind " + what, one.teach(), other.teach());
        return alike(what + " and teach()");
    }

    /** Also what can't be asked is the same: it shows in what comes later. */
    Twins liveOn(String what) {
        for (int seat = 0; seat < one.seats(); seat++) {
            int s = seat;
            Check.same("dig(" + s + ") later, behind " + what, Check.answer(() -> one.dig(s)), Check.answer(() -> other.dig(s)));
            Check.same("takeProp(" + s + ") later, behind " + what, Check.answer(() -> one.takeProp(s)), Check.answer(() -> other.takeProp(s)));
        }
        Check.same("passDays(30) later, behind " + what, one.passDays(30), other.passDays(30));
        Check.same("digest() later, behind " + what, one.digest(), other.digest());
        return this;
    }
}
