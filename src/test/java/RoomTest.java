import com.sun.management.ThreadMXBean;
import java.lang.management.ManagementFactory;

/** All calls live in one room: behind the constructor none makes an object, the dearest neither. */
public final class RoomTest {
    private static final Due DUE = new Due("RoomTest");
    // what a virtual machine itself may add now and then; one small array a call would be far more
    private static final long SLACK = 4096;
    private static final String TEXT = "river 3;bridge 0 1 4 5;bridge 1 0 4 1;bridge 0 1 1 0;bridge 1 0 5 7;bridge 0 1 3 0;"
        + "bridge 1 0 0 0;bridge 0 1 4 3;row 0 1 2 3;";

    private static long dearCalls(BridgeNames x) {
        long sum = x.read() + x.bridge(1, 0, 5, 3) + x.rule(0, 4, 6) + x.month(1) + x.say(0, 1) + x.hush(1);
        sum += x.way(0, 0, 1, -1) + x.ways(0, 0, 0, 0) + x.curse(0, 2, 0) + x.above(3, 0, 0) + x.called(0, 0, 7, -1);
        sum += x.note(0, 0, 0) + x.fits(0, 0) + x.tries(1) + x.renamed(0, 3) + x.stammer(0, 0, 3, 9) + x.part(0);
        sum += x.boats(0, 5, 60) + x.flood(0, 5, 60, 1, 2) + x.boat(0, 65535, 0, 7, 1) + x.nothing(0, 0);
        sum += x.image(0) + x.from(0) + x.undo() + x.digest() + x.status(9) + x.count(9) + x.of(0, 0) + x.at(0, 0);
        return sum + x.forget();
    }

    public static void main(String[] args) {
        ThreadMXBean threads = (ThreadMXBean) ManagementFactory.getThreadMXBean();
        long self = Thread.currentThread().getId();
        BridgeNames x = new BridgeNames();
        for (int i = 0; i < TEXT.length(); i++) {
            x.type(TEXT.charAt(i));
        }
        long first = dearCalls(x);
        threads.getThreadAllocatedBytes(self);
        long before = threads.getThreadAllocatedBytes(self);
        long sum = 0;
        for (int round = 0; round < 200; round++) {
            sum += dearCalls(x);
        }
        long made = threads.getThreadAllocatedBytes(self) - before;
        DUE.holds("calls make no objects, but made bytes: " + made, made <= SLACK);
        before = threads.getThreadAllocatedBytes(self);
        BridgeNames y = new BridgeNames();
        made = threads.getThreadAllocatedBytes(self) - before;
        DUE.holds("a new object is small, but made bytes: " + made, made <= 8192 + SLACK && y.count(0) == 0);
        DUE.holds("the calls did answer", first != 0 && sum != 0);
        DUE.end();
    }
}
