import com.sun.management.ThreadMXBean;
import java.lang.management.ManagementFactory;

/** All calls of a run live in one room: an object is small, and its calls make nothing. */
final class RoomTest {
    public static void main(String[] args) {
        Check c = new Check("RoomTest");
        ThreadMXBean room = (ThreadMXBean) ManagementFactory.getThreadMXBean();
        ask(new StairsThatGo(), 1);
        long start = room.getCurrentThreadAllocatedBytes();
        StairsThatGo x = new StairsThatGo();
        long made = room.getCurrentThreadAllocatedBytes() - start;
        c.holds("an object takes " + made + " bytes", made < 20000);
        start = room.getCurrentThreadAllocatedBytes();
        for (int k = 1; k <= 12; k++) {
            ask(x, k);
        }
        long more = room.getCurrentThreadAllocatedBytes() - start;
        c.holds("calls take " + more + " bytes", more < 20000);
        c.end();
    }

    private static void ask(StairsThatGo x, int k) {
        x.stair(4 + k % 7, 1 + k % 2);
        x.of(k % 3, 1, 1 + k % 2);
        x.set(3, 4 + k);
        x.person(k, k % 2, k % 5);
        x.type(0x203575733B356462L, 8);
        x.people();
        x.change(20 + k, k);
        x.image();
        x.at(50, 0);
        x.on(50, 0, 1, 1);
        x.fate(0, 2);
        x.all(0);
        x.ways(0);
        x.best(3 * k, 0);
        x.thrift(90, 0);
        x.costs(0);
        x.rules();
        x.sheet(k % 4, k % 3, 16);
        x.film(k % 4, k % 3, 2, 10);
        x.stood(k % 4, k % 3, 2, 10);
        x.copy(k % 4, 0, k % 4, 3, 13);
        x.item(k % 4, k % 3, 2, 10);
        x.drop(k % 4);
        x.strike(0);
        x.restore();
    }
}
