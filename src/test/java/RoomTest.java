import java.lang.management.ManagementFactory;
import java.lang.reflect.Array;
import java.lang.reflect.Field;
import java.lang.reflect.Modifier;
import java.util.ArrayList;
import java.util.IdentityHashMap;
import java.util.List;
import java.util.Map;

/** All calls of a run share one room: an object is small, and its calls make nothing new. */
public final class RoomTest {
    private static final String TEXT = "smith a master wage 2;smith b master wage 3;horse x;horse y;"
            + "hours a x 21;hours a y 13;hours b x 17;hours b y 36;late 3;lends a b;";
    private static final int[] FOURS = fours();

    public static void main(String[] args) throws Exception {
        ShoeingDay x = new ShoeingDay();
        everyCall(x);
        allocated();
        // The question itself makes objects: as many as are seen between two that follow at once.
        long own = -allocated() + allocated();
        long before = allocated();
        for (int i = 0; i < 10; i++) {
            everyCall(x);
        }
        long made = allocated() - before - own;
        int[] size = sizeOf(x);
        boolean good = made < 500 && size[0] < 200 && size[1] < 12000;
        System.out.println("an object has " + size[0] + " parts with " + size[1] + " fields and elements; "
                + "calls made " + made + " bytes" + (good ? "" : ": that is too much"));
        if (!good) {
            System.exit(1);
        }
    }

    private static int[] fours() {
        int[] fours = new int[(TEXT.length() + 19) / 20 * 5];
        for (int i = 0; i < fours.length * 4; i++) {
            fours[i / 4] = fours[i / 4] << 8 | (i < TEXT.length() ? TEXT.charAt(i) : ' ');
        }
        return fours;
    }

    private static long allocated() {
        com.sun.management.ThreadMXBean bean = (com.sun.management.ThreadMXBean) ManagementFactory.getThreadMXBean();
        return bean.getThreadAllocatedBytes(Thread.currentThread().getId());
    }

    private static void everyCall(ShoeingDay x) {
        for (int i = 0; i < FOURS.length; i += 5) {
            x.feed(FOURS[i], FOURS[i + 1], FOURS[i + 2], FOURS[i + 3], FOURS[i + 4]);
        }
        x.end(TEXT.length());
        x.yard();
        x.fault(0);
        x.lacks(0, 0);
        x.sum(0, true);
        x.least();
        x.busy(true);
        x.rounds();
        x.lasts(0);
        x.with(0, 0);
        x.wages();
        x.parted(7, 3, 0, 0);
        x.even();
        x.proof();
        x.image(0);
        x.run(5);
        x.more(0, 0, 1);
        x.breaks(0, 1);
        x.undo();
        x.redo();
        x.round(1);
        x.pair(0, 0);
        x.judge(1);
        x.hush();
        x.sight(30, 0, 0);
        x.later(1);
        x.fits(1, 1, 1000);
        x.untell(0);
        x.back(0);
        x.about(3);
    }

    private static int[] sizeOf(Object root) throws Exception {
        Map<Object, Boolean> seen = new IdentityHashMap<>();
        List<Object> open = new ArrayList<>();
        open.add(root);
        seen.put(root, true);
        int elements = 0;
        for (int i = 0; i < open.size(); i++) {
            Object one = open.get(i);
            if (one.getClass().isArray()) {
                elements += Array.getLength(one);
                continue;
            }
            for (Field field : one.getClass().getDeclaredFields()) {
                if (Modifier.isStatic(field.getModifiers())) {
                    continue;
                }
                elements++;
                field.setAccessible(true);
                Object part = field.getType().isPrimitive() ? null : field.get(one);
                if (part != null && seen.put(part, true) == null) {
                    open.add(part);
                }
            }
        }
        return new int[] {open.size(), elements};
    }
}
