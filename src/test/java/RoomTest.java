import com.sun.management.ThreadMXBean;
import java.lang.management.ManagementFactory;

/** The room: once an object is made, its calls make no further objects. */
public final class RoomTest {
    private static final String LASTS = "pes;dne;te;pw;pnnee";

    public static void main(String[] args) {
        Check check = new Check();
        ThreadMXBean threads = (ThreadMXBean) ManagementFactory.getThreadMXBean();
        long id = Thread.currentThread().getId();
        DeadLasts x = Check.made("......;..#..c;....r.;......", LASTS,
                "00000e;00120n;20331w;28215s;08004n;16000n;11440e", 0, 3, 3, 29);
        all(x);
        threads.getThreadAllocatedBytes(id);
        long before = threads.getThreadAllocatedBytes(id);
        for (int i = 0; i < 20; i++) {
            all(x);
        }
        long made = threads.getThreadAllocatedBytes(id) - before;
        check.yes("bytes made by calls: " + made, made < 4096);
        check.finish();
    }

    private static void all(DeadLasts x) {
        x.digest();
        x.undo(2);
        x.type(2, 'n');
        x.storm(5, 9, 0, 0);
        x.sheet(0, 2, 60);
        x.lay(0, 2, 1, 5);
        x.copy(0, 0, 0, 1, 30);
        x.write(0, 0);
        x.read(0);
        x.get(1, 1, 1);
        x.seen(3, 1, 4);
        x.forget();
        x.lose(0);
        x.rain(0);
        x.back();
        x.wipe(1);
        Check.typed(x, 1, LASTS);
    }
}
