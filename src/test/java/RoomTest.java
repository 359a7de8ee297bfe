import java.lang.management.ManagementFactory;
import java.lang.reflect.Array;
import java.lang.reflect.Field;
import java.lang.reflect.Modifier;
import java.util.ArrayDeque;
import java.util.Collections;
import java.util.Deque;
import java.util.IdentityHashMap;
import java.util.Random;
import java.util.Set;

/** The room: no call makes an object, an object is small, and no argument makes a call throw. */
public final class RoomTest {
    private static final int[] ODD = {Integer.MIN_VALUE, -5, -2, -1, 0, 1, 2, 3, 4, 5, 6, 7, 8, 9, 10, 11, 30, 31, 40,
        41, 88888, 88889, 99999, 100000, Integer.MAX_VALUE};

    private static int wrong = 0;
    private static long sum = 0;

    private static void hold(boolean so, String what) {
        if (!so) {
            wrong++;
            System.out.println("not so: " + what);
        }
    }

    private static void callAll(BackColumns x, int a, int b, int c) {
        sum += x.word(a, b) + x.reader(a, b) + x.notice(a, b) + x.put(a) + x.takeFor(a, b) + x.reads(a, b);
        sum += x.answers(a) + x.price(a) + x.cheapest(a, b) + x.twofold() + x.matched(a) + x.near(a) + x.column(a, b);
        sum += x.tell(a, b, c) + x.taken(a) + x.speaks() + x.odds(a, b, c) + x.run(a, b, c) + x.wanted() + x.moods(a);
        sum += x.month(a, b, c) + x.keep() + x.take(b) + x.undo() + x.count(a) + x.write(a) + x.fault() + x.lay();
        sum += (c & 3) == 3 ? x.back() + x.forget() : 0;
        sum += c == 9 ? x.wipe() : 0;
    }

    private static void wildArguments() {
        for (int a : ODD) {
            for (int b : ODD) {
                BackColumns x = new BackColumns();
                for (int c : ODD) {
                    callAll(x, a, b, c);
                }
            }
        }
        Random random = new Random(7);
        for (int n = 0; n < 3000; n++) {
            BackColumns x = new BackColumns();
            for (int call = 0; call < 16; call++) {
                int[] abc = random.ints(3, -1, 8 + call * call).toArray();
                callAll(x, abc[0], abc[1], abc[2]);
            }
        }
    }

    private static long allocated() {
        return ((com.sun.management.ThreadMXBean) ManagementFactory.getThreadMXBean()).getCurrentThreadAllocatedBytes();
    }

    private static void noCallMakesObjects() {
        BackColumns x = new BackColumns();
        callAll(x, 1, 1, 1);
        allocated();
        long before = allocated();
        for (int n = 0; n < 10000; n++) {
            callAll(x, n % 9, n % 7, n % 5);
        }
        // The reading of the counter itself may take some bytes; an object a call would be 160,000 or more.
        long made = allocated() - before;
        hold(made < 10000, "10,000 rounds of calls make " + made + " bytes");
    }

    private static void anObjectIsSmall() throws Exception {
        Set<Object> seen = Collections.newSetFromMap(new IdentityHashMap<>());
        Deque<Object> open = new ArrayDeque<>();
        long parts = 0;
        open.add(new BackColumns());
        while (!open.isEmpty()) {
            Object o = open.remove();
            if (!seen.add(o)) {
                continue;
            }
            if (o.getClass().isArray()) {
                parts += Array.getLength(o);
                for (int n = 0; n < Array.getLength(o) && o instanceof Object[]; n++) {
                    open.add(Array.get(o, n));
                }
                continue;
            }
            for (Field f : o.getClass().getDeclaredFields()) {
                if (!Modifier.isStatic(f.getModifiers())) {
                    parts++;
                    f.setAccessible(true);
                    if (!f.getType().isPrimitive()) {
                        open.add(f.get(o));
                    }
                }
            }
        }
        hold(seen.size() <= 60, "objects and arrays: " + seen.size());
        hold(parts <= 1500, "fields and elements: " + parts);
        System.out.println("an object: " + seen.size() + " objects and arrays, " + parts + " fields and elements");
    }

    public static void main(String[] args) throws Exception {
        wildArguments();
        noCallMakesObjects();
        anObjectIsSmall();
        System.out.println(wrong == 0 ? "the room is kept" : wrong + " rules of the room are not kept");
        if (wrong != 0) {
            System.exit(1);
        }
    }
}
