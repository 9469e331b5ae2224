import com.sun.management.ThreadMXBean;
import java.lang.management.ManagementFactory;

/** What an object and its dearest 512 calls take of the room that all calls of a run live in. */
public final class RoomTest {
    private static final int MOST_CALLS = 512;
    /** The room has 7.3 million elements: these are some thousandth and some twentieth of it. */
    private static final long MOST_BYTES_NEW = 10_000, MOST_BYTES_RUN = 2_000_000;

    private static final ThreadMXBean THREADS = (ThreadMXBean) ManagementFactory.getThreadMXBean();

    private static int wrong;

    public static void main(String[] args) {
        // Once ahead of the counting, so that loading the classes is not counted.
        dearestRun(new WheelCrane());
        long start = allocated();
        WheelCrane crane = new WheelCrane();
        hold(allocated() - start, MOST_BYTES_NEW, "a new object");
        hold(dearestRun(crane), MOST_BYTES_RUN, "the dearest run");
        hold(runOfReading(crane), 0, "calls that ask again what is known, and refused ones");
        System.out.println(wrong == 0 ? "the room is wide enough" : wrong + " runs take too much room");
        System.exit(wrong == 0 ? 0 : 1);
    }

    private static long allocated() {
        return THREADS.getCurrentThreadAllocatedBytes();
    }

    private static void hold(long bytes, long most, String what) {
        if (bytes > most) {
            wrong++;
            System.out.println(what + ": " + bytes + " bytes, " + most + " at most");
        }
    }

    /** Stone by stone with every question at each, so that all rows grow as often as they can; then new plans. */
    private static long dearestRun(WheelCrane crane) {
        long start = allocated();
        int calls = 0;
        for (int i = 0; i < 5; i++) crane.stand(6 * i, 3, 0);
        for (int i = 0; i < 8; i++) crane.man(60 + i);
        for (int i = 0; i < 12; i++) crane.load(400 + i);
        for (int i = 0; i < 8; i++) crane.corner(i * i, 7 * i);
        for (int i = 0; i < 14; i++) {
            crane.stone(2 * i, i / 4, 1 + i % 8, 0);
            crane.orders();
            crane.plan();
            crane.act(i);
            crane.end();
            crane.worst(2, 0, 0);
            calls += 6;
        }
        for (calls += 33; calls + 7 <= MOST_CALLS; calls += 7) {
            crane.price(calls % 4, 4, 1 + calls % 100);
            crane.plan();
            crane.mortar(calls % 11);
            crane.worst(1 + calls % 2, 1, 0);
            crane.blamed(850, 11);
            crane.fewest(3000, 600);
            crane.holes();
        }
        return allocated() - start;
    }

    private static long runOfReading(WheelCrane crane) {
        long start = allocated();
        for (int i = 0; i < 40; i++) {
            crane.plan();
            crane.orders();
            crane.worst(2, 1, 1);
            crane.laid(13);
            crane.stone(0, 0, 1, 0);
            crane.stand(0, 0, 0);
            crane.middle(2);
            crane.tilt(1, 2, 3, 4, 1);
            crane.digest();
        }
        return allocated() - start;
    }
}
