import java.lang.management.ManagementFactory;

/** All calls of a run live in one room: no call but the constructor makes anything to speak of. */
public final class RoomTest {
    private static final com.sun.management.ThreadMXBean THREADS =
            (com.sun.management.ThreadMXBean) ManagementFactory.getThreadMXBean();
    private static int sum = 0;

    public static void main(String[] args) {
        if (!THREADS.isThreadAllocatedMemorySupported()) {
            System.out.println("this machine does not tell what is made");
            return;
        }
        dearCalls(Samples.picker());
        long before = made();
        PassagePicker picker = new PassagePicker();
        long constructor = made() - before;
        System.out.println("the constructor makes " + constructor + " bytes");
        Check.yes("a constructor makes less than 12,000 elements", constructor < 12000 * 4);
        Check.page(picker, "fox dog. ".repeat(60));
        Check.query(picker, "item 1 fox; item 2 dog*; item 3 soft fox dog;");
        picker.tell(2, 100);
        before = made();
        for (int times = 0; times < 16; times++) {
            dearCalls(picker);
        }
        long calls = made() - before;
        System.out.println("some 400 dear calls make " + calls + " bytes");
        Check.yes("calls make next to nothing", calls < 20000);
        Check.finish();
        System.out.println(sum == 0 ? "" : "answered");
    }

    private static long made() {
        return THREADS.getThreadAllocatedBytes(Thread.currentThread().getId());
    }

    private static void dearCalls(PassagePicker picker) {
        picker.tell(1, 6);
        sum += picker.choice(true) + picker.choice(false) + picker.take(true) + picker.loss(0) + picker.need(1);
        sum += picker.count(13) + picker.count(14) + picker.step(2) + picker.rank(1) + picker.exchange(2);
        sum += picker.window(1, -1, 0) + picker.window(1, 1, 0) + picker.least(1, 0) + picker.most(600);
        sum += picker.widest(600, 0) + picker.cut(0, 10, 0) + picker.quote(600) + picker.write(10) + picker.write(600);
        sum += picker.set(3, 0) + picker.common(0, 1) + picker.sentence(0, 10) + picker.word(3, 5) + picker.match(2, 0);
    }
}
