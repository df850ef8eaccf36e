import java.lang.management.ManagementFactory;
import java.lang.reflect.Array;
import java.lang.reflect.Field;
import java.lang.reflect.InvocationTargetException;
import java.lang.reflect.Method;
import java.lang.reflect.Modifier;
import java.util.IdentityHashMap;
import java.util.NoSuchElementException;
import java.util.Random;

/** Rules 7 and 12: no arguments in any state make a call throw by itself, and what a run makes has room. */
public final class RoomTest {
    private static final int[] ODD = {0, 1, -1, 2, 3, 5, 6, 7, 8, 11, 12, 15, 16, 31, 32, 63, 99, 100, 1200, 1999, 4999, 5000,
        65535, 65536, 1000000, -1000000, Integer.MAX_VALUE, Integer.MIN_VALUE, Integer.MAX_VALUE - 1, 0x61626364};

    public static void main(String[] args) throws Exception {
        roomOfOne();
        for (int seed = 0; seed < 420; seed++) {
            oddCalls(new Random(seed), seed % 3);
        }
        dearCalls();
        Due.close("RoomTest");
    }

    private static void roomOfOne() throws Exception {
        IdentityHashMap<Object, Integer> seen = new IdentityHashMap<>();
        int elements = counted(new PotBook(), seen);
        Due.is("a PotBook has " + seen.size() + " objects", seen.size() < 6000, true);
        Due.is("a PotBook has " + elements + " elements", elements < 73000, true);
    }

    private static int counted(Object o, IdentityHashMap<Object, Integer> seen) throws Exception {
        if (o == null || seen.put(o, 1) != null) {
            return 0;
        }
        int all = 0;
        if (o.getClass().isArray()) {
            int length = Array.getLength(o);
            all = length;
            for (int k = 0; k < length && !o.getClass().getComponentType().isPrimitive(); k++) {
                all += counted(Array.get(o, k), seen);
            }
            return all;
        }
        for (Field f : o.getClass().getDeclaredFields()) {
            if (!Modifier.isStatic(f.getModifiers())) {
                f.setAccessible(true);
                all += 1 + (f.getType().isPrimitive() ? 0 : counted(f.get(o), seen));
            }
        }
        return all;
    }

    /** Of all told as much as may be (2), something (1), nothing (0), by some 260 of the 512 calls. */
    private static PotBook full(int how) {
        PotBook x = new PotBook();
        int many = how == 2 ? 16 : how;
        for (int k = 0; k < many; k++) {
            x.thing(k, k, k, k % 2 == 0, 1, 12);
        }
        for (int k = 0; k < many && k < 6; k++) {
            Due.tell(x, "y:w*[s-n]/b", 1);
        }
        for (int k = 0; k < many; k++) {
            Due.tell(x, how == 2 ? "a" + (k + 1) + ",b,c2-9,d1,e1,f1,g1,h1;B9R9T9S9B9R9T9S9" : "a1", 0);
            x.hold(k, k % 6, -1000000, 1000000);
            x.trial(k % 6, k, k % 2 == 0);
            x.book(k - 1);
            x.day(1, k % 2 == 0);
            x.bought(k % 10, k % 12, 9);
        }
        return x;
    }

    private static void oddCalls(Random random, int how) throws Exception {
        PotBook x = full(how);
        Method[] all = PotBook.class.getDeclaredMethods();
        java.util.Arrays.sort(all, (a, b) -> a.getName().compareTo(b.getName()));
        for (int k = 0; k < 240; k++) {
            Method m = all[random.nextInt(all.length)];
            if (!Modifier.isPublic(m.getModifiers())) {
                continue;
            }
            Object[] values = new Object[m.getParameterCount()];
            for (int p = 0; p < values.length; p++) {
                values[p] = m.getParameterTypes()[p] == boolean.class ? (Object) random.nextBoolean()
                        : (Object) (random.nextInt(3) == 0 ? random.nextInt(8) : ODD[random.nextInt(ODD.length)]);
            }
            try {
                m.invoke(x, values);
            } catch (InvocationTargetException e) {
                boolean told = m.getName().equals("page") && e.getCause() instanceof NoSuchElementException;
                Due.is(m.getName() + java.util.Arrays.toString(values) + " throws " + e.getCause(), told, true);
            }
        }
    }

    /** The dearest calls that can be, some 230 of them, with what they make counted in bytes: 7.3 million elements are more. */
    private static void dearCalls() {
        com.sun.management.ThreadMXBean bean = (com.sun.management.ThreadMXBean) ManagementFactory.getThreadMXBean();
        PotBook x = full(2);
        x.most(20);
        long sum = dear(x);
        long before = bean.getThreadAllocatedBytes(Thread.currentThread().getId());
        for (int k = 0; k < 18; k++) {
            sum += dear(x);
        }
        long made = bean.getThreadAllocatedBytes(Thread.currentThread().getId()) - before;
        Due.is("calls make " + made + " bytes (" + sum + ")", made < 20000000, true);
    }

    private static long dear(PotBook x) {
        return x.shared(1) + x.weigh(2) + x.range(3, 2, 1) + x.stand(4, 1, 1) + x.serves(5, 1500, 1, 1) + x.nearest(6)
                + x.swapped(7, 0, 1) + x.menu(1, 31, 99, 0) + x.softer(8, 0, 1) + x.tree() + x.could(11) + x.ways(3);
    }
}
