import java.lang.management.ManagementFactory;
import java.lang.reflect.Field;
import java.lang.reflect.Modifier;

/** All calls of a run live in one room: an object is small, and no call makes another one. */
public final class RoomTest {
    public static void main(String[] args) throws Exception {
        Checks checks = new Checks("RoomTest");
        long elements = elementsOf(new NineTrees(), 0);
        checks.holds("a new object has some thousand fields and elements, not " + elements, elements < 2000);
        com.sun.management.ThreadMXBean bean =
            (com.sun.management.ThreadMXBean) ManagementFactory.getThreadMXBean();
        long sum = 0;
        long least = Long.MAX_VALUE;
        // The least of some rounds: the first ones load classes.
        for (int round = 0; round < 5; round++) {
            NineTrees x = new NineTrees();
            long before = bean.getThreadAllocatedBytes(Thread.currentThread().getId());
            sum += everyCall(x);
            long after = bean.getThreadAllocatedBytes(Thread.currentThread().getId());
            least = Math.min(least, after - before);
        }
        checks.holds("the calls answered", sum != 0);
        checks.holds("calls make nothing, not " + least + " bytes", least < 1000);
        checks.finish();
    }

    private static long elementsOf(Object o, int depth) throws Exception {
        if (o == null || depth > 5) {
            return 0;
        }
        if (o instanceof int[] a) {
            return a.length;
        }
        if (o instanceof long[] a) {
            return a.length;
        }
        long sum = 0;
        if (o instanceof Object[] a) {
            for (Object e : a) {
                sum += 1 + elementsOf(e, depth + 1);
            }
            return sum;
        }
        for (Field f : o.getClass().getDeclaredFields()) {
            if (!Modifier.isStatic(f.getModifiers())) {
                f.setAccessible(true);
                sum += 1 + (f.getType().isPrimitive() ? 0 : elementsOf(f.get(o), depth + 1));
            }
        }
        return sum;
    }

    private static long everyCall(NineTrees x) {
        String text = "side 8;tree 0 0 1;tree 2 9 2;tree 0 18 3;wish 0 1 2;move 0 63;tree 0 5 0;fell";
        long sum = x.row(0, 3, 40) + x.set(0, 1, 1) + x.row(1, 3, 40) + x.copy(0, 1, 0, 1, 39) + x.element(1, 2) + x.holds(0);
        for (int i = 0; i < text.length(); i++) {
            sum += x.feed(text.charAt(i));
        }
        sum += x.garden() + x.plant(12) + x.show(2, 0) + x.says(2, 0) + x.tree(9, 9, 9) + x.wish(7) + x.move(0, 62);
        sum += x.image() + x.treeOf(0, 3) + x.treeAt(9) + x.many(2) + x.threes() + x.rowAt(2, 0) + x.longest() + x.alone();
        sum += x.through(0, 1) + x.inLine(7) + x.judge(0, 3) + x.gap(0) + x.missed(0) + x.least() + x.best(0) + x.moved(0, 63);
        sum += x.may() + x.most(5) + x.view(0) + x.overlooks() + x.behind(0, 0) + x.paths(2) + x.wishOf(0) + x.met(-1);
        sum += x.bestFor(2) + x.alike() + x.middle() + x.nearest() + x.largest() + x.squares() + x.corners() + x.pointed(3);
        sum += x.turn() + x.mirror() + x.improve() + x.seed(5) + x.content() + x.fell() + x.side(3) + x.wipe() + x.back();
        for (int what = 0; what < 17; what++) {
            sum += x.status(what);
        }
        return sum;
    }
}
