import java.lang.management.ManagementFactory;

/**
 * What calls make is kept small: all calls of a run live in one room. Bytes are counted, of which an element takes
 * one at least and an object sixteen.
 */
public final class RoomTest {
    private static final String LAND = "ward 10;ward 20 beside 0;ward 30 beside 1 0;ward 40 beside 1 2;ward 50 beside 0 1 2 3;"
        + "act 1 from 0 to 99 fine 5;act 1 from 15 to 30 fine 7;act 2 from 20 to 99 fine 9;act 1 from 0 to 99 fine 9;"
        + "degree:base+fire-ice+hour*2-day;prevails:fine>5 or many=1 and not span<10 or act=0;whole;hour 100;";

    private static final com.sun.management.ThreadMXBean THREADS =
        (com.sun.management.ThreadMXBean) ManagementFactory.getThreadMXBean();

    public static void main(String[] args) {
        // once ahead, so that what the machine makes for itself isn't counted
        run(queries());
        Check.due("512 new objects take less than 20 million bytes", made(() -> {
            for (int i = 0; i < 512; i++) {
                new DegreeLaws();
            }
        }) < 20_000_000 ? 1 : 0, 1);
        DegreeLaws x = queries();
        Check.due("512 rounds of dear calls make next to nothing", made(() -> {
            for (int i = 0; i < 512; i++) {
                ask(x);
            }
        }) < 100_000 ? 1 : 0, 1);
        DegreeLaws y = queries();
        Check.due("512 rounds of deeds make next to nothing", made(() -> run(y)) < 100_000 ? 1 : 0, 1);
        DegreeLaws z = new DegreeLaws();
        Check.due("lands make little", made(() -> {
            for (int i = 0; i < 25; i++) {
                Check.landText(z, LAND);
            }
        }) < 200_000 ? 1 : 0, 1);
        Check.end();
    }

    private static DegreeLaws queries() {
        DegreeLaws x = Check.landOf(LAND);
        Check.trayOf(x, 0, 1024, 1124, 1224, 1324);
        Check.trayOf(x, 1, -1, 14, 14);
        Check.trayOf(x, 2, -1, 20010, 1024, 30010);
        ask(x);
        for (int i = 0; i < 3; i++) {
            x.image(i);
        }
        return x;
    }

    private static void ask(DegreeLaws x) {
        x.leastHeat(1, 0, 24);
        x.heat(1, 0, 0, 24);
        x.cover(1, 0, 1);
        x.strictest();
        x.where(1, 24);
        x.cheapest(1, 0, 24);
        x.spell(1, 0, 200, 0);
        x.heaviest(0);
        x.alwaysBarred();
        x.guard(1, 0, 3);
        x.freeAt(2, 0, 3, 3);
        x.wayFine(1, 0, 3, 60);
        x.freeWays(2, 0, 3, 20);
        x.errands(0);
        x.bestOrder(0, 0);
        x.seen(1, 1, 0);
        x.look(1, 1, 0);
        x.judge(2, 3);
        x.copy(1, 0);
        Check.trayOf(x, 1, -1, 14, 14);
    }

    private static void run(DegreeLaws x) {
        for (int i = 0; i < 512; i++) {
            x.perform(2);
            x.season(i, 30);
            x.amend(0, 0, i % 100);
            x.undo(3);
            x.image(i % 3);
            x.restore(i % 3);
            x.tray(3, 2, 30);
            x.feed(i, i, i, i, i);
        }
    }

    private static long made(Runnable calls) {
        long ahead = THREADS.getThreadAllocatedBytes(Thread.currentThread().getId());
        calls.run();
        return THREADS.getThreadAllocatedBytes(Thread.currentThread().getId()) - ahead;
    }
}
