import java.lang.management.ManagementFactory;
import java.lang.reflect.Array;
import java.lang.reflect.Field;
import java.lang.reflect.Modifier;
import java.util.Collections;
import java.util.IdentityHashMap;
import java.util.Set;

/** The room in which all calls of a run live: 600,000 objects and arrays, 7.3 million fields and elements. */
public final class RoomTest {
    private static final String TEXT = "tube mirrors 9 slots 6 shakes 37;person a red at 0;person b red at 1"
            + ";person c red at 2;person d red at 3;person e red at 4;turn l 1 2 3 4 5 0;turn s 1 0 2 3 4 5"
            + ";quarrel a b;quarrel b c;wants a c;shuns a b;unsure a 5;seen a b beside";
    private static final int MOST_CALLS = 512;

    private static int objects = 0;
    private static int elements = 0;

    public static void main(String[] args) throws IllegalAccessException {
        Check check = new Check();
        count(new StreetTube(), Collections.newSetFromMap(new IdentityHashMap<>()));
        System.out.println("an object is " + objects + " objects and arrays, " + elements + " fields and elements");
        check.due("a run that makes a new object by each call has room for its objects", objects * MOST_CALLS <= 600_000, true);
        check.due("and for their fields and elements", elements * MOST_CALLS <= 7_300_000, true);
        callsMakeNothing(check);
        check.end();
    }

    private static void count(Object x, Set<Object> passed) throws IllegalAccessException {
        if (x == null || !passed.add(x)) {
            return;
        }
        objects++;
        if (x.getClass().isArray()) {
            elements += Array.getLength(x);
            return;
        }
        for (Field f : x.getClass().getDeclaredFields()) {
            if (!Modifier.isStatic(f.getModifiers())) {
                f.setAccessible(true);
                elements++;
                if (!f.getType().isPrimitive()) {
                    count(f.get(x), passed);
                }
            }
        }
    }

    private static void callsMakeNothing(Check check) {
        StreetTube x = new StreetTube();
        Check.tell(x, TEXT);
        long kept = 0;
        long made = Long.MAX_VALUE;
        com.sun.management.ThreadMXBean bean = (com.sun.management.ThreadMXBean) ManagementFactory.getThreadMXBean();
        // the first rounds load classes; the least of all is what the calls make
        for (int i = 0; i < 20; i++) {
            long before = bean.getCurrentThreadAllocatedBytes();
            kept += dearCalls(x);
            made = Math.min(made, bean.getCurrentThreadAllocatedBytes() - before);
        }
        check.due("calls answered", kept != 0, true);
        check.due("bytes made by calls", made < 100 ? 0 : made, 0);
    }

    private static long dearCalls(StreetTube x) {
        x.feed(1953849957, 544041330, 1919906419, 540156019, 1819243635);
        long kept = x.tube(x.size(11)) + x.turn(0) + x.turnBack(1) + x.move(0, 5) + x.keep() + x.reach() + x.errand() + x.peaceAt(0);
        kept += x.mirrored(9) + x.pairs() + x.centre() + x.calmest() + x.bring(0, 4) + x.bracelets(12, 9) + x.near(0, 1);
        kept += x.gets(0, 1, 5) + x.getsBy(0, 1, 5) + x.odds(0, 1, 5, true) + x.mean(5, false) + x.slotOdds(0, 1, 5, true);
        kept += x.shaken(0, 7, 60) + x.peaceIn(7, 60) + x.fits() + x.ask() + x.judge() + x.undoing(121212, 6) + x.selves();
        return kept + (x.undo() ? 1 : 0) + (x.back(0) ? 1 : 0) + x.trouble() + x.where() + x.fault();
    }
}
