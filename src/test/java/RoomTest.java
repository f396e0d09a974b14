import java.lang.management.ManagementFactory;
import java.lang.reflect.Array;
import java.lang.reflect.Field;
import java.lang.reflect.Modifier;
import java.util.IdentityHashMap;
import java.util.Map;

/** All calls of one run live in one room: an object is small, and no call makes anything. */
public final class RoomTest {
    private static final Due due = new Due();
    private static int objects;
    private static int elements;

    public static void main(String[] args) throws ReflectiveOperationException {
        measure(new OnePlan(), new IdentityHashMap<>());
        System.out.println("a new object: " + objects + " objects and arrays, " + elements + " fields and elements");
        due.is("more than 200 objects", objects > 200 ? 1 : 0, 0);
        due.is("more than 6000 elements", elements > 6000 ? 1 : 0, 0);
        OnePlan x = new OnePlan();
        callAll(x);
        com.sun.management.ThreadMXBean bean = (com.sun.management.ThreadMXBean) ManagementFactory.getThreadMXBean();
        bean.getThreadAllocatedBytes(Thread.currentThread().getId());
        long before = bean.getThreadAllocatedBytes(Thread.currentThread().getId());
        long sum = 0;
        for (int i = 0; i < 100; i++) {
            sum += callAll(x);
        }
        long made = bean.getThreadAllocatedBytes(Thread.currentThread().getId()) - before;
        System.out.println("a hundred times all calls: " + made + " bytes made");
        due.is("bytes made by calls", made > 2000 ? made : 0, 0);
        due.is("the same again", sum, 100 * callAll(x));
        due.end("RoomTest");
    }

    private static void measure(Object o, Map<Object, Boolean> seen) throws ReflectiveOperationException {
        if (o == null || seen.put(o, true) != null) {
            return;
        }
        objects++;
        if (o.getClass().isArray()) {
            elements += Array.getLength(o);
            return;
        }
        for (Field field : o.getClass().getDeclaredFields()) {
            if (!Modifier.isStatic(field.getModifiers())) {
                elements++;
                field.setAccessible(true);
                if (!field.getType().isPrimitive()) {
                    measure(field.get(o), seen);
                }
            }
        }
    }

    private static long callAll(OnePlan x) {
        long sum = x.wipe(0) * 0L + x.wipe(1) * 0L + x.clear() * 0L;
        type(x, 0, "A(A>Bx,B>Ay|A>Bz|2(B>Ax,B>Cy)),B(-|B>Cx),C(-|C>Dx|C>Dy)");
        type(x, 1, "!Bx?By|!Bz");
        x.tell(10);
        sum += x.fault(0) + x.fault(1) + x.plan(0) + x.histories() + x.said(3, 1) + x.look(1, 2, 0) + x.looks(1);
        sum += x.parts(2, 9) + x.sound() + x.moment(3) + x.mended() + x.run(4, 9, 1) + x.step(5, 9, 3);
        sum += x.longest(4, 0, 1) + x.trips(7, 0) + x.trips(7, 1) + x.lost(8, 1, 1, 0) + x.fits(0) + x.breach(1);
        sum += x.sheet(0, 2, 9) + x.sheet(1, 2, 9) + x.write(0, 4) + x.put(0, 2, 8, 4) + x.get(0, 2, 0);
        sum += x.copy(0, 1, 1, 0, 5) + x.log(0) + x.left(2) + x.out(0) + x.ask() + x.lose(1) + x.count(8);
        return sum + x.digest();
    }

    private static void type(OnePlan x, int text, String bytes) {
        for (int i = 0; i < bytes.length(); i++) {
            x.type(text, bytes.charAt(i));
        }
    }
}
