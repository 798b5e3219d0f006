import com.sun.management.ThreadMXBean;
import java.lang.management.ManagementFactory;

/** What the dearest calls make: nothing that would fill the one room in which a run lives. */
public final class RoomTest {
    private static final int CALLS = 512;
    private static final long MOST_FOR_AN_OBJECT = 32_000;
    private static final long MOST_FOR_THE_CALLS = 200_000;

    public static void main(String[] args) {
        ThreadMXBean bean = (ThreadMXBean) ManagementFactory.getThreadMXBean();
        long me = Thread.currentThread().getId();
        use(new Bagatelle(), 2);
        bean.getThreadAllocatedBytes(me);
        long before = bean.getThreadAllocatedBytes(me);
        Bagatelle x = new Bagatelle();
        long made = bean.getThreadAllocatedBytes(me) - before;
        long sum = use(x, CALLS);
        long used = bean.getThreadAllocatedBytes(me) - before - made;
        System.out.println("an object takes " + made + " bytes, " + CALLS + " dear calls " + used + " more (" + sum + ")");
        System.exit(made <= MOST_FOR_AN_OBJECT && used <= MOST_FOR_THE_CALLS ? 0 : 1);
    }

    private static long use(Bagatelle x, int calls) {
        tell(x, 0, "04t;13l;15r;24b;33t;42r;44t;51b;57l;60r;68l;74t");
        tell(x, 1, "123454321");
        tell(x, 2, "a5;a5;b4;c6;e1;e9;f5;g5;h4;i6;j5;x5");
        for (int i = 0; i < 8; i++) {
            x.event(i % 3, i, i);
        }
        long sum = 0;
        for (int i = 0; i < calls; i++) {
            x.room(i % 9 + 1);
            x.seen(i % 24, i % 8, i % 9, 12);
            x.sheet(i % 4, i % 3, 60);
            x.write(i % 12, i % 4);
            sum += x.digest();
        }
        return sum;
    }

    private static void tell(Bagatelle x, int text, String bytes) {
        for (int i = 0; i < bytes.length(); i++) {
            x.type(text, bytes.charAt(i));
        }
    }
}
