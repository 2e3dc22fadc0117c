import com.sun.management.ThreadMXBean;
import java.lang.management.ManagementFactory;

/** All calls of a run live in one room: none but image() may make anything, and an object itself stays small. */
public final class MemoryTest {
    private static final Check CHECK = new Check("MemoryTest");
    private static final ThreadMXBean THREADS = (ThreadMXBean) ManagementFactory.getThreadMXBean();

    public static void main(String[] args) {
        // The first object loads the classes; that is not the class's own making.
        useAll(new FurnitureCure());
        long before = THREADS.getCurrentThreadAllocatedBytes();
        FurnitureCure x = new FurnitureCure();
        long made = THREADS.getCurrentThreadAllocatedBytes() - before;
        CHECK.holds("an object takes " + made + " bytes", made < 16000);
        callsMakeNothing(x);
        CHECK.end();
    }

    private static void callsMakeNothing(FurnitureCure x) {
        x.image(0);
        x.image(1);
        useAll(x);
        long before = THREADS.getCurrentThreadAllocatedBytes();
        for (int i = 0; i < 8; i++) {
            useAll(x);
        }
        long made = THREADS.getCurrentThreadAllocatedBytes() - before;
        CHECK.holds("calls make " + made + " bytes", made < 2000);
    }

    private static void useAll(FurnitureCure x) {
        for (int piece = 0; piece < 6; piece++) {
            x.piece(piece, 5, 5, 5);
            x.guest(piece, 63);
        }
        x.room(0, 0, -1);
        x.room(0, 1, -1);
        x.room(0, 2, -1);
        x.bad(0, 1, 1);
        x.wipe();
        x.say('A');
        x.say('!');
        x.say('.');
        x.fault();
        x.judge(0);
        x.behind(0, 0);
        x.worse(0);
        x.done();
        x.well();
        x.stays(2);
        x.alone(2, 0);
        x.all(1);
        x.ways(3, 64, 4);
        x.rooms(3, 64);
        x.seats(5);
        x.forget();
        x.seen(3, 3, 0);
        x.does(1);
        x.tries(0);
        x.home(5, 9, 6, 0, 0, 0);
        x.bill(99, 3);
        x.draughts(3, 9, 5, 4, 0);
        x.week(7, 99, 0);
        x.leave(5);
        x.told(1);
        x.image(0);
        x.restore(1);
    }
}
