import com.sun.management.ThreadMXBean;
import java.lang.management.ManagementFactory;

/** What a run makes: an object's rows when it is made, and nothing by its calls. */
public final class RoomTest {
    // 512 objects of this many four-byte elements fill less than the room's 7.3 million
    private static final long MOST_OF_ONE = 14_000L * 4;
    private static final long MOST_OF_CALLS = 4096;

    private static final ThreadMXBean BEAN = (ThreadMXBean) ManagementFactory.getThreadMXBean();

    public static void main(String[] args) {
        Check check = new Check();
        String text = "cyclic 2;cyclic 2;cyclic 2;cyclic 2;set 1 2 4 8;";
        // the first time, classes are loaded and texts are made
        ask(Check.told(text));
        long start = made();
        SumFreeSets x = new SumFreeSets();
        long one = made() - start;
        check.due("an object of " + one + " bytes is small", one <= MOST_OF_ONE, true);
        Check.feed(x, text);
        start = made();
        check.due("text()", x.text(), 16);
        for (int i = 0; i < 8; i++) {
            ask(x);
        }
        long calls = made() - start;
        check.due("calls that make " + calls + " bytes make next to nothing", calls <= MOST_OF_CALLS, true);
        check.end();
    }

    private static long made() {
        return BEAN.getThreadAllocatedBytes(Thread.currentThread().getId());
    }

    private static int ask(SumFreeSets x) {
        int sum = x.subgroups() + x.turns() + x.image(0x1234) + x.orbit(0x1234) + x.orbits(0, 4) + x.classes();
        sum += x.many(1, -1) + x.nth(0, 4, 9) + x.colour(3) + x.characters(4) + x.lifted(16) + x.parts(0xFFFE);
        sum += x.spell(-1) + x.report(3) + x.ints(16, -1) + x.mean(0, true) + x.usual(1) + x.best(1) + x.copies(7);
        sum += x.covers(7) + x.power(7, 99) + x.nearest(77, 1, 1) + x.within(6, true) + x.kin() + x.normal(3);
        x.put(3, true);
        sum += x.thin() + x.fill() + x.shift(1, true) + x.invert() + x.turn(3) + x.weigh(1, 2) + x.keep(0) + x.take(1);
        return sum + x.undo() + x.undo() + x.feed(0x20202020, 0x20202020, 1, 2, 3) + x.back(20);
    }
}
