import com.sun.management.ThreadMXBean;
import java.lang.management.ManagementFactory;

/** The room that a run takes: all that its 512 dearest calls make, with nothing ever given back. */
public final class RoomTest {
    private static final Due DUE = new Due("RoomTest");
    private static final long MOST_BYTES = 4000000;
    private static final ThreadMXBean ROOM = (ThreadMXBean) ManagementFactory.getThreadMXBean();

    public static void main(String[] args) {
        takes("new objects", 40, i -> new RingingChamber());
        takes("searches", 300, RoomTest.searches());
        takes("judging", 300, RoomTest.judging());
        takes("ringing and proving", 200, RoomTest.proving());
        RingingChamber bells = new RingingChamber();
        takes("bells and methods", 512, i -> {
            if (i % 31 == 0) {
                bells.bells(12);
            } else {
                bells.method(i % 6);
            }
        });
        DUE.close();
    }

    private interface Call {
        void make(int i);
    }

    private static void takes(String what, int calls, Call call) {
        long before = ROOM.getCurrentThreadAllocatedBytes();
        for (int i = 0; i < calls; i++) {
            call.make(i);
        }
        long taken = ROOM.getCurrentThreadAllocatedBytes() - before;
        DUE.is(what + " take " + taken + " bytes: too many", taken > MOST_BYTES, false);
    }

    private static Call searches() {
        RingingChamber x = full(4, "x1x1x1x2");
        return i -> {
            if (i % 20 == 0) {
                x.search(12, 0, 0, 1000);
            } else {
                x.goOn(1000);
            }
        };
    }

    private static Call judging() {
        RingingChamber x = full(12, "x1".repeat(50));
        return i -> x.judge(29);
    }

    private static Call proving() {
        RingingChamber x = full(12, "x1x1x1x1x1x1x1x1x1x1x1x2");
        for (int i = 0; i < 100; i++) {
            x.touch(i % 30, 0);
        }
        return i -> {
            if (i % 4 == 0) {
                x.ring();
            } else if (i % 4 == 1) {
                x.on(1000);
            } else if (i % 4 == 2) {
                x.proof();
            } else {
                x.check();
            }
        };
    }

    /** Thirty methods, all ALLOWED, of which the last is SPLICED with six PARTS. */
    private static RingingChamber full(int bells, String text) {
        RingingChamber x = new RingingChamber();
        x.bells(bells);
        for (int m = 0; m < 30; m++) {
            x.method(m == 29 ? 5 : 3);
            Due.lead(x, m, text);
            x.called(m, 1, 0, 0);
            x.called(m, 2, 1, 0);
            x.allow(m, 7);
        }
        for (int part = 0; part < 6; part++) {
            x.part(29, part);
        }
        return x;
    }
}
