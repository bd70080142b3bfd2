import com.sun.management.ThreadMXBean;
import java.lang.management.ManagementFactory;

/** All calls of a run live in one room: what an object makes is counted here, in bytes, over all its dearest calls. */
public final class RoomTest {
    private static final ThreadMXBean THREADS = (ThreadMXBean) ManagementFactory.getThreadMXBean();
    private static int wrong = 0;

    public static void main(String[] args) {
        GalleyStroke x = new GalleyStroke();
        String six = text(6);
        Feeding.read(x, six);
        work(x);
        long before = made();
        for (int i = 0; i < 20; i++) {
            work(x);
        }
        most("calls make nothing", made() - before, 4096);
        before = made();
        for (int i = 0; i < 100; i++) {
            x.read();
        }
        most("read() makes nothing", made() - before, 4096);
        before = made();
        new GalleyStroke();
        // 512 of them must fit: some 14,000 elements and 1,100 objects each at most.
        most("a new object", made() - before, 40000);
        GalleyStroke twelve = new GalleyStroke();
        Feeding.read(twelve, text(12));
        before = made();
        twelve.every(0, 3, 0);
        most("the rows of every()", made() - before, 2 * 4 * 20736 + 4096);
        before = made();
        work(twelve);
        most("calls with 12 men", made() - before, 4096);
        System.out.println(wrong == 0 ? "the room suffices" : wrong + " things take too much room");
        if (wrong != 0) {
            System.exit(1);
        }
    }

    private static long made() {
        return THREADS.getThreadAllocatedBytes(Thread.currentThread().getId());
    }

    private static void most(String what, long bytes, long limit) {
        if (bytes > limit) {
            wrong++;
            System.out.println(what + ": " + bytes + " bytes, at most " + limit + " are due");
        }
    }

    private static String text(int men) {
        StringBuilder s = new StringBuilder("law x = if gap(own, drum) < 3 and two != song then own + gap(drum, own) / 2"
            + " else if not own == ahead then (own * own + ahead) * 5 + drum else own + ahead * two + 1;"
            + "drum 3 5; fog 3 9;");
        for (int i = 0; i < men; i++) {
            s.append("man ").append((char) ('a' + i)).append(" x ").append(i * 5 % 24).append(";");
        }
        return s.toString();
    }

    private static void work(GalleyStroke x) {
        x.tell(50, 1, true);
        for (int what = 0; what < 3; what++) {
            x.seating(what, 10);
            x.seat(what, 10, 1);
            x.better(what, 10);
            x.every(0, 3, what);
            x.ram(20, what);
            x.suspects(what, 1);
            x.suspect(what, 1, 1);
            x.check(what, 1, 50);
            x.wave(what);
            x.round(what);
            x.hold(what);
            x.restore(what);
        }
        x.odds(8, 2, 5);
        x.soon(5);
        x.rubs(100);
        x.row(100);
        x.undo();
        x.change(0, 1);
    }
}
