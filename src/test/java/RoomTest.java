import com.sun.management.ThreadMXBean;
import java.lang.management.ManagementFactory;

/** All calls of a run live in one room: an object is made once, and its calls make nothing more. */
public final class RoomTest {
    private static final int ROUNDS = 40;

    private RoomTest() {
    }

    public static void main(String[] args) {
        FairWheel x = Check.told("A>B5>>C<");
        x.seen(0, 0);
        Check.write(x, "?>?^>?^");
        FairWheel y = Check.told("A<<<");
        Check.write(y, "^5>C^3>0");
        long answers = dear(x) + dear(y);
        long before = made();
        for (int i = 0; i < ROUNDS; i++) {
            answers += dear(x) + dear(y);
        }
        long bytes = made() - before;
        Check.dueThat("the answers are there", answers != 0);
        Check.dueThat(ROUNDS + " rounds made " + bytes + " bytes", bytes < 4096);
        Check.end();
    }

    private static long made() {
        return ((ThreadMXBean) ManagementFactory.getThreadMXBean()).getThreadAllocatedBytes(Thread.currentThread().getId());
    }

    private static long dear(FairWheel x) {
        long sum = x.judge(0) + x.behind(1) + x.leftOut(-1) + x.brake() + x.balance(31, -1) + x.filled(-1);
        for (int person = 0; person < 8; person++) {
            sum += x.down(person, 0) + x.pebbles(person) + x.could(person, 3, 0) + x.chance(person, 3, 0);
            sum += x.year(77, 99, person) + x.told(20 + person) + x.car(person, 0);
        }
        return sum + x.image(0) + x.restore(0) + x.pull() + x.foot() + x.fault();
    }
}
