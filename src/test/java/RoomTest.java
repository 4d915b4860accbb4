import java.lang.management.ManagementFactory;

/** All calls of one run share one room: the dearest ones may leave little behind. */
public final class RoomTest {
    private static final int CALLS = 512;
    private static int wrong = 0;

    public static void main(String[] args) {
        if (!(ManagementFactory.getThreadMXBean() instanceof com.sun.management.ThreadMXBean counter)) {
            System.out.println("room: this machine does not count what is made");
            return;
        }
        Signproduct x = new Signproduct();
        for (int row = 0; row < 4; row++) {
            for (int place = 0; place < 60; place++) {
                x.put(row, place % 2 == 0 ? '.' : 'a' + row);
            }
        }
        spend(counter, "digest()", 0, () -> x.digest());
        spend(counter, "isSound()", 0, () -> x.isSound());
        spend(counter, "take()", 0, () -> x.take(0, 0, 1));
        spend(counter, "copy()", 0, () -> x.copy(2, 3));
        spend(counter, "sorts()", 2000, () -> x.sorts(0).length());
        spend(counter, "text()", 2000, () -> x.text(0).length());
        System.out.println(wrong == 0 ? "room: all calls keep to it" : "room: " + wrong + " calls do not keep to it");
        if (wrong != 0) {
            System.exit(1);
        }
    }

    private static void spend(com.sun.management.ThreadMXBean counter, String name, long most, Runnable call) {
        call.run();
        long before = counter.getCurrentThreadAllocatedBytes();
        for (int i = 0; i < CALLS; i++) {
            call.run();
        }
        long each = (counter.getCurrentThreadAllocatedBytes() - before) / CALLS;
        // Some bytes are the counter's own.
        if (each > most + 16) {
            wrong++;
            System.out.println("room: " + name + " makes " + each + " bytes each time");
        }
    }
}
