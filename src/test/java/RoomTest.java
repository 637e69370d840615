import java.lang.management.ManagementFactory;

/** What dear runs of 512 calls make stays far below the room that all calls of a run share. */
public final class RoomTest {
    // The room holds 7.3 million fields and elements; an element has at least one byte.
    private static final long BYTES = 2_000_000L;

    private static long made() {
        com.sun.management.ThreadMXBean bean =
            (com.sun.management.ThreadMXBean) ManagementFactory.getThreadMXBean();
        return bean.getThreadAllocatedBytes(Thread.currentThread().getId());
    }

    private static void truces(TruceWall wall, long[] text) {
        for (int i = 0; i < 128; i++) {
            for (int k = 0; k < text.length; k += 3) {
                wall.feed(text[k], text[k + 1], text[k + 2]);
            }
            wall.truce();
            wall.mark(i & 3, false);
        }
    }

    private static void calls(TruceWall wall) {
        for (int i = 0; i < 64; i++) {
            wall.set(0, i % 5, 1);
            wall.pays();
            wall.mason(i & 1, i % 3);
            wall.reached(10);
            wall.histories(10);
            wall.lots(i, 100, 1);
            wall.undo();
            wall.mark(0, true);
        }
    }

    public static void main(String[] args) {
        Check check = new Check("RoomTest");
        long[] text = Check.packed("wall 5 2;stone a cut 4;fine day+1+1+1+1+1;gates 1;");
        made();
        long before = made();
        TruceWall wall = new TruceWall();
        check.due("a new object's bytes are few", made() - before < 200_000L, true);
        truces(wall, text);
        check.due("bytes of truces are few", made() - before < BYTES, true);
        before = made();
        calls(wall);
        check.due("searches make nothing", made() - before < 10_000L, true);
        check.end();
    }
}
