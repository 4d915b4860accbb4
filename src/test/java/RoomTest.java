import java.lang.management.ManagementFactory;

/** All calls of one run share one room: the dearest ones may leave little behind. */
public final class RoomTest {
    // With the calls that fill the rows at most 512, as an object is promised for.
    private static final int CALLS = 256;
    private static int wrong = 0;

    public static void main(String[] args) {
        if (!(ManagementFactory.getThreadMXBean() instanceof com.sun.management.ThreadMXBean counter)) {
            System.out.println("room: this machine does not count what is made");
            return;
        }
        Signproduct[] full = new Signproduct[6];
        for (int i = 0; i < full.length; i++) {
            full[i] = full();
        }
        spend(counter, "digest()", 0, () -> full[0].digest());
        spend(counter, "isSound()", 0, () -> full[1].isSound());
        spend(counter, "take()", 0, () -> full[2].take(0, 0, 1));
        spend(counter, "copy()", 0, () -> full[3].copy(2, 3));
        spend(counter, "sorts()", 2000, () -> full[4].sorts(0).length());
        spend(counter, "text()", 2000, () -> full[5].text(0).length());
        System.out.println(wrong == 0 ? "room: all calls keep to it" : "room: " + wrong + " calls do not keep to it");
        if (wrong != 0) {
            System.exit(1);
        }
    }

    private static Signproduct full() {
        Signproduct x = new Signproduct();
        for (int row = 0; row < 4; row++) {
            for (int place = 0; place < 60; place++) {
                x.put(row, place % 2 == 0 ? '.' : 'a' + row);
            }
        }
        return x;
    }

    private static void spend(com.sun.management.ThreadMXBean counter, String name, long most, Runnable call) {
        call.run();
        long before = counter.getCurrentThreadAllocatedBytes();
        for (int i = 0; i < CALLS; i++) {
            call.run();
        }
        long each = (counter.getCurrentThreadAllocatedBytes() - before) / CALLS;
        // Some bytes are the counter's own.
        if (each > most + 16) {
            wrong++;
            System.out.println("room: " + name + " makes " + each + " bytes each time");
        }
    }
}
