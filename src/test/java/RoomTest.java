import com.sun.management.ThreadMXBean;
import java.lang.management.ManagementFactory;
import java.lang.reflect.Array;
import java.lang.reflect.Field;
import java.lang.reflect.Modifier;
import java.util.ArrayDeque;
import java.util.Collections;
import java.util.Deque;
import java.util.IdentityHashMap;
import java.util.Random;
import java.util.Set;

/** The room of a run: what an object holds, what its calls make, and that none of them throws. */
public final class RoomTest {
    private static final int MOST_ELEMENTS = 14_000;
    private static final int MOST_OBJECTS = 100;
    private static final int[] ODD = {Integer.MIN_VALUE, Integer.MIN_VALUE + 1, -1441, -3, -2, -1, 0, 1, 2, 3, 7, 8, 11, 12,
        19, 20, 23, 24, 29, 30, 31, 32, 57, 58, 64, 99, 100, 127, 128, 240, 600, 1439, 1440, 2879, 2880, 4095, 143_999,
        145_000, Integer.MAX_VALUE - 1, Integer.MAX_VALUE};

    private static int wrong;

    private static void due(String what, boolean holds) {
        if (!holds) {
            wrong++;
            System.out.println("not so: " + what);
        }
    }

    /** Objects and arrays, fields and elements that are held by an object. */
    private static long[] size(Object root) throws IllegalAccessException {
        Set<Object> seen = Collections.newSetFromMap(new IdentityHashMap<>());
        Deque<Object> open = new ArrayDeque<>();
        open.add(root);
        long elements = 0;
        while (!open.isEmpty()) {
            Object x = open.poll();
            if (!seen.add(x)) {
                continue;
            }
            if (x.getClass().isArray()) {
                elements += Array.getLength(x);
                continue;
            }
            for (Field field : x.getClass().getDeclaredFields()) {
                if (Modifier.isStatic(field.getModifiers())) {
                    continue;
                }
                elements++;
                field.setAccessible(true);
                Object value = field.get(x);
                if (!field.getType().isPrimitive() && value != null) {
                    open.add(value);
                }
            }
        }
        return new long[] {seen.size(), elements};
    }

    /** The largest desk there can be: all stops, trips, calls, walks, delays. */
    private static ConnectionDesk full() {
        ConnectionDesk x = new ConnectionDesk();
        Random random = new Random(5);
        for (int s = 0; s < 12; s++) {
            x.stop(s % 4, s % 4);
        }
        for (int z = 0; z < 16; z++) {
            x.fare(z / 4, z % 4, random.nextInt(10));
        }
        for (int t = 0; t < 24; t++) {
            x.trip(t % 3, 127, t % 3 == 0 ? 0 : 1 + t % 2);
            int time = random.nextInt(500);
            for (int k = 0; k < 8; k++) {
                x.call(t, random.nextInt(12), time, time + 2);
                time += 2 + random.nextInt(100);
            }
        }
        for (int w = 0; w < 20; w++) {
            x.walk(w % 12, (w + 1 + w / 12) % 12, 5 + w);
            if (w % 3 > 0) {
                x.shuttle(w, 10 * w, 1400, 7);
            }
            if (w % 3 > 1) {
                x.asked(w, 30);
            }
        }
        for (int n = 0; n < 60; n++) {
            x.late(n % 24, 40 - n % 12, n % 8, 240);
        }
        return x;
    }

    /** Makes the numbered call with these arguments. */
    private static int make(ConnectionDesk x, int call, int a, int b, int c, int d) {
        switch (call) {
            case 0: return x.stop(a, b);
            case 1: return x.fare(a, b, c);
            case 2: return x.day(a, b);
            case 3: return x.trip(a, b, c);
            case 4: return x.call(a, b, c, d);
            case 5: return x.miss(a, b, (c & 1) != 0);
            case 6: return x.walk(a, b, c);
            case 7: return x.shuttle(a, b, c, d);
            case 8: return x.asked(a, b);
            case 9: return x.late(a, b, c, d);
            case 10: return x.gone(a, b, (c & 3) == 0);
            case 11: return x.ways(a, b, c, d);
            case 12: return x.way(a, b);
            case 13: return x.leg(a, b, c);
            case 14: return x.take(a);
            case 15: return x.give(a);
            case 16: return x.still(a);
            case 17: return x.comes(a);
            case 18: return x.taken(a, b, c);
            case 19: return x.latest(a, b, c, d);
            case 20: return x.reach(a, b, c, d);
            case 21: return x.meet(a, b, c);
            case 22: return x.met();
            case 23: return x.table(a, b, c, d);
            default: return x.count(a);
        }
    }

    private static int odd(Random random) {
        return random.nextInt(3) == 0 ? ODD[random.nextInt(ODD.length)] : random.nextInt(random.nextBoolean() ? 12 : 100);
    }

    /** Many calls with arguments of all sorts; an exception would end the test. */
    private static void storm(ConnectionDesk x, Random random, int calls) {
        for (int n = 0; n < calls; n++) {
            make(x, random.nextInt(25), odd(random), odd(random), odd(random), odd(random));
        }
    }

    private static void allocatesNothing() {
        ThreadMXBean bean = (ThreadMXBean) ManagementFactory.getThreadMXBean();
        long self = Thread.currentThread().getId();
        int[] plan = new int[5 * 512];
        Random random = new Random(11);
        for (int n = 0; n < plan.length; n++) {
            plan[n] = n % 5 == 0 ? random.nextInt(25) : odd(random);
        }
        ConnectionDesk x = full();
        for (int round = 0; round < 3; round++) {
            long before = bean.getThreadAllocatedBytes(self);
            for (int n = 0; n < plan.length; n += 5) {
                make(x, plan[n], plan[n + 1], plan[n + 2], plan[n + 3], plan[n + 4]);
            }
            long made = bean.getThreadAllocatedBytes(self) - before;
            if (round == 2) {
                due("512 calls allocated " + made + " bytes", made <= 1024);
            }
        }
    }

    public static void main(String[] args) throws IllegalAccessException {
        long[] size = size(new ConnectionDesk());
        System.out.println("an object holds " + size[0] + " objects and arrays, " + size[1] + " fields and elements");
        due("few objects", size[0] <= MOST_OBJECTS);
        due("few elements", size[1] <= MOST_ELEMENTS);
        allocatesNothing();
        for (int seed = 0; seed < 60; seed++) {
            storm(seed % 2 == 0 ? full() : new ConnectionDesk(), new Random(seed), 3000);
        }
        ConnectionDesk x = full();
        long start = System.nanoTime();
        long sum = 0;
        for (int n = 0; n < 512; n++) {
            sum += n % 2 == 0 ? x.ways(n % 12, (n + 5) % 12, 30 + n % 12, n) : x.meet(4095, 30 + n % 12, n);
        }
        System.out.println("512 of the dearest calls: " + (System.nanoTime() - start) / 1_000_000 + " ms, sum " + sum);
        if (wrong != 0) {
            System.exit(1);
        }
    }
}
