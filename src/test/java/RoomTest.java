import java.lang.management.ManagementFactory;

/** The dearest calls make no objects: all calls of a run must live in one small room. */
public final class RoomTest {
    private static final long MOST_BYTES = 400_000;

    public static void main(String[] args) {
        StringBuilder text = new StringBuilder();
        for (char c = 'a'; c <= 'h'; c++) {
            text.append("lamp ").append(c).append(" lit;");
        }
        for (char c = 'a'; c <= 'h'; c++) {
            text.append("cord ").append(c).append(" turns ").append(c).append(c == 'h' ? " b;" : " h;");
        }
        text.append("dusk not not not not not not(1").append("+near*lit%3".repeat(7)).append(");");
        long all = spent(text.toString());
        // once more, when all classes are loaded
        all = spent(text.toString());
        Check.due("bytes for an object and 500 calls are few: " + all, all < MOST_BYTES, true);
        Check.end("RoomTest");
    }

    private static long spent(String text) {
        com.sun.management.ThreadMXBean bean = (com.sun.management.ThreadMXBean) ManagementFactory.getThreadMXBean();
        long before = bean.getThreadAllocatedBytes(Thread.currentThread().getId());
        CordLoft x = Check.with(text);
        long sum = 0;
        for (int i = 0; i < 25; i++) {
            sum += x.dusk() + x.pull(i % 8) + x.again(0) + x.pasts(0) + x.still() + x.game(0) + x.exchange(0);
            sum += x.steady(i) + x.rows(i) + x.more(0) + x.spare() + x.mark(0) + x.apart(0) + x.cheapest(i, 0);
            sum += x.seen(i % 8, true) + x.ask(0, 0) + x.sure(0, 0) + x.will(60, 1) + x.loosen() + x.nearest(i, 0);
        }
        Check.due("something was answered", sum != 0, true);
        return bean.getThreadAllocatedBytes(Thread.currentThread().getId()) - before;
    }
}
