import com.sun.management.ThreadMXBean;
import java.lang.management.ManagementFactory;
import java.lang.reflect.Array;
import java.lang.reflect.Field;
import java.lang.reflect.Modifier;
import java.util.IdentityHashMap;
import java.util.Map;

/**
 * What objects and calls take of the room that all calls of a run share: an object some
 * thousands of elements, made at once, and a call nothing, if it throws nothing.
 */
public final class RoomTest {
    private static final int MOST_OBJECTS = 100;
    private static final int MOST_ELEMENTS = 8000;
    private static final String GREATEST = "seats 8 layers 10;" + Texts.empires(6) + Texts.coins(24) + "dig day;".repeat(8) + "prop 5 when [seen e1 or sure 3];".repeat(8);
    private static final String BROKEN = "dig 1; dig";

    private static long objects = 0;
    private static long elements = 0;
    private static long sum = 0;

    public static void main(String[] args) throws IllegalAccessException {
        SofaDig dig = new SofaDig();
        count(dig, new IdentityHashMap<>());
        Check.same("objects and arrays of an object, " + objects, objects <= MOST_OBJECTS, true);
        Check.same("fields and elements of an object, " + elements, elements <= MOST_ELEMENTS, true);
        madeByCalls();
        grown();
        Check.finish();
    }

    /** The objects and arrays that this one holds, itself as well, and the fields and elements in them. */
    private static void count(Object holder, Map<Object, Object> seen) throws IllegalAccessException {
        if (holder == null || seen.put(holder, holder) != null) {
            return;
        }
        objects++;
        if (holder.getClass().isArray()) {
            elements += Array.getLength(holder);
            return;
        }
        for (Field field : holder.getClass().getDeclaredFields()) {
            if (!Modifier.isStatic(field.getModifiers())) {
                elements++;
                if (!field.getType().isPrimitive()) {
                    field.setAccessible(true);
                    count(field.get(holder), seen);
                }
            }
        }
    }

    /** The second life alone is measured: the first one loads what the machine needs. */
    private static void madeByCalls() {
        int[] good = words(GREATEST);
        int[] bad = words(BROKEN);
        SofaDig first = new SofaDig();
        SofaDig second = new SofaDig();
        live(first, good, bad);
        ThreadMXBean threads = (ThreadMXBean) ManagementFactory.getThreadMXBean();
        long before = bytesMade(threads);
        live(second, good, bad);
        long made = bytesMade(threads) - before;
        Check.same("bytes made by some 450 calls", made, 0);
        Check.same("both lives answer the same", first.digest(), second.digest());
    }

    /** Nothing is kept of what was taught before. */
    private static void grown() throws IllegalAccessException {
        long before = objects + elements;
        SofaDig dig = new SofaDig();
        int[] good = words(GREATEST);
        for (int i = 0; i < 5; i++) {
            feed(dig, good);
            dig.teach();
            dig.passDays(30);
        }
        objects = 0;
        elements = 0;
        count(dig, new IdentityHashMap<>());
        Check.same("room of an object that was taught often", objects + elements, before);
    }

    private static long bytesMade(ThreadMXBean threads) {
        return threads.isThreadAllocatedMemorySupported() ? threads.getCurrentThreadAllocatedBytes() : 0;
    }

    private static void live(SofaDig dig, int[] good, int[] bad) {
        feed(dig, bad);
        sum += dig.teach() + dig.errorAt();
        feed(dig, good);
        sum += dig.trim(good.length * 4) + dig.teach() + dig.errorAt();
        sum += dig.prop(7) + dig.dig(0) + dig.passDays(2) + dig.takeProp(7);
        for (int round = 0; round < 2; round++) {
            ask(dig);
            sum += dig.passDays(10);
        }
        ask(dig);
    }

    private static void feed(SofaDig dig, int[] words) {
        for (int i = 0; i < words.length; i += 5) {
            sum += dig.feed(words[i], words[i + 1], words[i + 2], words[i + 3], words[i + 4]);
        }
    }

    private static void ask(SofaDig dig) {
        sum += dig.seats() + dig.strata() + dig.finds() + dig.days() + dig.ordersCarriedOut() + dig.cushionsDug();
        sum += dig.slides() + dig.found() + dig.sureFinds() + dig.props() + dig.bestDig() + dig.digest();
        sum += dig.foundAfter(30) + (long) dig.meanYear();
        for (int seat = 0; seat < dig.seats(); seat++) {
            sum += dig.heightOf(seat) + dig.findsLeft(seat) + Check.bit(dig.isPropped(seat));
            if (dig.heightOf(seat) > 0) {
                sum += dig.topStratum(seat) + dig.wouldSlide(seat) + Check.bit(dig.isTopLoose(seat)) + Check.bit(dig.hasTopSpring(seat));
            }
        }
        for (int find = 20; find < dig.finds(); find++) {
            sum += dig.stratumOf(find) + dig.yearOf(find) + dig.daysUntilFound(find) + Check.bit(dig.isCoin(find));
            sum += dig.isFound(find) ? Check.bit(dig.isSure(find)) : dig.buriedUnder(find);
        }
        for (int stratum = 0; stratum < 3; stratum++) {
            sum += dig.notBefore(stratum) + Check.bit(dig.isMixed(stratum)) + Check.bit(dig.isSeenIn(stratum, 5));
        }
    }

    /** Four bytes in each, and blanks at the end until they are a multiple of five. */
    private static int[] words(String text) {
        int[] words = new int[(text.length() + 19) / 20 * 5];
        for (int at = 0; at < words.length * 4; at++) {
            words[at / 4] = words[at / 4] << 8 | (at < text.length() ? text.charAt(at) & 255 : ' ');
        }
        return words;
    }
}
