import com.sun.management.ThreadMXBean;
import java.lang.management.ManagementFactory;

/** What calls make is little: rows are made by the constructor, and used again. */
public final class RoomTest {
    private static final Check CHECK = new Check();
    private static final ThreadMXBean ROOM = (ThreadMXBean) ManagementFactory.getThreadMXBean();
    private static final String TEXT = "person 100 1 1 0 1;".repeat(8) + "asks left<90 or not company;says (left+theirs)/9;";

    private static long made() {
        return ROOM.getThreadAllocatedBytes(Thread.currentThread().getId());
    }

    private static int dear(GivenMinutes x, int n) {
        int sum = x.fast(0) + x.look(1) + x.toLast(n % 8, 60) + x.toSet(n % 8, 60, 0) + x.pairs(1) + x.pair(n % 8);
        sum += x.fog(n % 8, 5, 5) + x.game(0, 1, 0) + x.years(n, 60, 0) + x.watch(60) + x.toStay(n % 8, 60) + x.busiest(60);
        x.image();
        x.steps(1);
        x.set(n % 8, n % 60);
        x.see(0, 1, n);
        x.restore();
        return sum + x.later(60, 4) + x.silent(60) + x.undo();
    }

    public static void main(String[] args) {
        GivenMinutes x = CHECK.quay(TEXT);
        int sum = dear(x, 0);
        long before = made();
        GivenMinutes y = new GivenMinutes();
        long ofOne = made() - before;
        before = made();
        for (int n = 0; n < 20; n++) {
            sum += dear(x, n);
        }
        long ofCalls = made() - before;
        System.out.println("an object makes " + ofOne + " bytes, calls " + ofCalls);
        CHECK.due("an object takes little", ofOne < 200_000, true);
        CHECK.due("calls make next to nothing", ofCalls < 20_000, true);
        CHECK.due("answers are told", sum != y.count(0), true);
        CHECK.end();
    }
}
