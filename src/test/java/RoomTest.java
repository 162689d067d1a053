import com.sun.management.ThreadMXBean;
import java.lang.management.ManagementFactory;

/** All calls of a run live in one room: an object is made once, and its calls make nothing more. */
public final class RoomTest {
    /** A round is 100 calls at most, and an object is asked 512 at most. */
    private static final int ROUNDS = 4;

    private RoomTest() {
    }

    public static void main(String[] args) {
        FairWheel x = Check.told("A>B5>>C<");
        FairWheel y = Check.told("A<<<");
        long answers = made() + round(x, y);
        long before = made();
        long meanwhile = made() - before;
        before = made();
        for (int i = 1; i < ROUNDS; i++) {
            answers += round(x, y);
        }
        long bytes = made() - before - meanwhile;
        Check.dueThat("the answers are there", answers != 0);
        // one object a round would be 96 bytes and more
        Check.dueThat("the calls made " + bytes + " bytes", bytes < 64);
        Check.end();
    }

    private static long made() {
        ThreadMXBean threads = (ThreadMXBean) ManagementFactory.getThreadMXBean();
        return threads.getCurrentThreadAllocatedBytes();
    }

    private static long round(FairWheel x, FairWheel y) {
        return dear(x, "?>?^>?^") + dear(y, "^5>C^3>0");
    }

    private static long dear(FairWheel x, String text) {
        long sum = x.wipe() + x.forget() + x.image(0);
        for (int i = 0; i < text.length(); i++) {
            sum += x.say(text.charAt(i));
        }
        sum += x.judge(0) + x.behind(1) + x.leftOut(-1) + x.brake() + x.balance(31, -1) + x.filled(-1) + x.seen(0, 0);
        for (int person = 0; person < 8; person++) {
            sum += x.down(person, 0) + x.pebbles(person) + x.could(person, 3, 0) + x.chance(person, 3, 0);
            sum += x.year(77, 99, person) + x.told(20 + person) + x.car(person, 0) + x.weigh(person, 8 + person);
        }
        return sum + x.done() + x.drag(20) + x.restore(0) + x.pull() + x.foot() + x.fault();
    }
}
