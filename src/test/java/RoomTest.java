import com.sun.management.ThreadMXBean;
import java.lang.management.ManagementFactory;

/** All calls of a run live in one room: 512 of the dearest ones make few objects. */
public final class RoomTest {
    private static final long MOST_BYTES = 1_000_000;

    public static void main(String[] args) {
        ThreadMXBean threads = (ThreadMXBean) ManagementFactory.getThreadMXBean();
        live();
        long before = threads.getCurrentThreadAllocatedBytes();
        live();
        long used = threads.getCurrentThreadAllocatedBytes() - before;
        System.out.println("bytes made by a run: " + used);
        Check.yes("a run stays small", used < MOST_BYTES);
        Check.finish();
    }

    private static void live() {
        SpaceWarden x = new SpaceWarden();
        for (int i = 0; i < 512; i++) {
            switch (i % 8) {
                case 0: x.fork(0); break;
                case 1: x.mount(0, 0, i % 90 + 1); break;
                case 2: x.image(); break;
                case 3: x.years(i, 60, 1); break;
                case 4: x.set(0, 2); break;
                case 5: x.look(0); break;
                case 6: x.end(i % 16); break;
                default: x.restore();
            }
            if (i == 200) {
                x.feed(0x666f726b, 0x20303b20, 0x20202020, 0x20202020, 0x20202020);
                x.spaces(20);
            }
        }
    }
}
