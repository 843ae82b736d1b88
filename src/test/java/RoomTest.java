import com.sun.management.ThreadMXBean;
import java.lang.management.ManagementFactory;

/** All calls of a run live in one room: a new object takes little of it, and its calls, the dearest too, next to nothing. */
public final class RoomTest {
    private static final ThreadMXBean BEAN = (ThreadMXBean) ManagementFactory.getThreadMXBean();

    private static long taken() {
        return BEAN.getCurrentThreadAllocatedBytes();
    }

    private static void dearest(RowsAloud x, int i) {
        x.length(i % 6, 8);
        x.figure(i % 6, 8, i);
        x.often(i % 6, 8, 3);
        x.first(i % 6, 0);
        x.again(0);
        x.apart(2);
        x.back(0);
        x.told(10);
        x.changes(0);
        x.couldBe();
        x.ask();
        x.drift(20);
        x.undo(20);
        x.turn();
        x.keep(i % 2);
        x.goBack(i % 2);
    }

    public static void main(String[] args) {
        Checks checks = new Checks("RoomTest");
        String text = "r" + "45".repeat(30) + ";w12345678;w45;w4;w5;w54;w44444444;";
        Checks.desk(text);
        long start = taken();
        RowsAloud x = new RowsAloud();
        long made = taken() - start;
        checks.holds("a new object takes " + made + " bytes, 40000 at most", made < 40000);
        for (int i = 0; i < text.length(); i++) {
            x.feed(text.charAt(i));
        }
        x.desk();
        for (int i = 0; i < 6; i++) {
            x.hear(5, i, false);
        }
        start = taken();
        for (int i = 0; i < 512; i++) {
            dearest(x, i);
        }
        long calls = taken() - start;
        checks.holds("512 times the dearest calls take " + calls + " bytes, 40000 at most", calls < 40000);
        checks.end();
    }
}
