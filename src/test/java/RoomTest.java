import com.sun.management.ThreadMXBean;
import java.lang.management.ManagementFactory;

/** All calls of a run live in one room: no call makes objects, and an object itself is small. */
public final class RoomTest {
    private static final Check check = new Check("RoomTest");
    private static final int CALLS = 512;
    private static final ThreadMXBean bean = (ThreadMXBean) ManagementFactory.getThreadMXBean();
    private static long sum = 0;

    public static void main(String[] args) {
        GuestStaff x = sevenGuests();
        // What a class needs once is made in the first round.
        callAll(x);
        bytes();
        long before = bytes();
        for (int i = 0; i < CALLS; i++) {
            callAll(x);
        }
        long made = bytes() - before;
        check.holds("the calls make no objects: " + made + " bytes", made < CALLS);
        before = bytes();
        sevenGuests();
        made = bytes() - before;
        check.holds("an object is small: " + made + " bytes", made < 16384);
        System.out.println("RoomTest: an object has " + made + " bytes; " + (sum == 0 ? "none" : "some") + " answered");
        check.finish();
    }

    private static long bytes() {
        return bean.getThreadAllocatedBytes(Thread.currentThread().getId());
    }

    private static GuestStaff sevenGuests() {
        GuestStaff x = new GuestStaff();
        for (int g = 0; g < 7; g++) {
            x.guest(g % 6, g, 255);
        }
        return x;
    }

    private static void callAll(GuestStaff x) {
        sum += x.image(0) + x.takeIn(255) + x.all(-1) + x.all(3) + x.least() + x.most(-1) + x.most(4) + x.lone();
        sum += x.rings(-1) + x.rings(2) + x.smallest() + x.swap(-1) + x.swap(0) + x.duty(0, 1) + x.duty(1, 0);
        sum += x.hour(60) + x.undo() + x.note(0, 0, 0, 0, 5) + x.wants(0) + x.is(0) + x.next(0) + x.tips(1, 60);
        sum += x.moods(3) + x.part(0) + x.hours(77, 60) + x.count(3) + x.status(0) + x.status(9) + x.digest();
        sum += x.of(0, 6) + x.can(0, 1) + x.work(0, 5) + x.forget() + x.clear() + x.house() + x.guest(0, 0, 1);
        for (int i = 0; i < TEXT.length; i++) {
            sum += x.type(TEXT[i]);
        }
        sum += x.read() + x.takeIn(255) + x.type(0) + x.read() + x.image(1) + x.from(0);
    }

    private static final char[] TEXT = "house;guest 0 1 0;guest 1 0 1;duty 0 1;".toCharArray();
}
