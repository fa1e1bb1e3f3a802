import com.sun.management.ThreadMXBean;
import java.lang.management.ManagementFactory;

/** What an object and its dearest calls make, so that all calls of a run find room. */
public final class RoomTest {
    private static final ThreadMXBean BEAN = (ThreadMXBean) ManagementFactory.getThreadMXBean();
    private static final long ROOM = 7300000L * 4;

    private RoomTest() {
    }

    private static long made() {
        return BEAN.getThreadAllocatedBytes(Thread.currentThread().getId());
    }

    public static void main(String[] args) {
        new BlackRoad();
        long before = made();
        BlackRoad x = new BlackRoad();
        long object = made() - before;
        System.out.println("an object: " + object + " bytes");
        Check.yes("an object is small", object < ROOM / 100);

        before = made();
        for (int s = 0; s < 12; s++) x.section(500, 30);
        x.even(120, 9, 20, 1, 1);
        x.layer(200, 0);
        for (int p = 0; p < 3; p++) x.plant(0, 10, 200, 1);
        for (int r = 0; r < 6; r++) x.roller(r % 3, 10);
        x.trucks(16, 5);
        // every load is refused, so that as many as can be are made
        x.heat(100, 1, 200, 0, 200);
        Check.put(x, "haul 0 1 from 0; haul 1 1 from 0; haul 2 1 from 0;");
        x.hours();
        for (int i = 0; i < 480; i++) {
            x.heat(100 + i % 100, 1, i % 2 == 0 ? 200 : 0, i % 200, 200);
            x.run(0, 1 + i % 20, 0);
            x.pay(0, 20, 12, i);
            x.mean(0, 20, 3, 600);
            x.tells(i, i, i, i);
        }
        x.pace();
        x.fewest(20);
        long calls = made() - before;
        System.out.println("its calls: " + calls + " bytes");
        Check.yes("its calls make little", calls < ROOM / 5);
        Check.end("RoomTest");
    }
}
