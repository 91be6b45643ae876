import com.sun.management.ThreadMXBean;
import java.lang.management.ManagementFactory;

/**
 * All calls of one run live in one room: a new object takes a little of it, and its calls none,
 * for the rows that they need are made once.
 */
public final class RoomTest {
    private static final String TOWN = "y9;w9 1 0;w9 1 0;w9 1 0;w9 1 0;a0 6;a1 13;a2 1;a3 7;o3;p1;p0;p1;"
            + "n0 0 0 9;n1 1 1 8;n2 2 2 7;n0 3 3 6;n1 0 4 5;n2 1 5 4;n0 2 6 3;n1 3 8 2;";
    private static final Check CHECK = new Check();

    private RoomTest() { }

    public static void main(String[] args) {
        ThreadMXBean threads = (ThreadMXBean) ManagementFactory.getThreadMXBean();
        run(new WordRation());
        threads.getCurrentThreadAllocatedBytes();
        long start = threads.getCurrentThreadAllocatedBytes();
        WordRation x = new WordRation();
        long made = threads.getCurrentThreadAllocatedBytes();
        run(x);
        long end = threads.getCurrentThreadAllocatedBytes();
        System.out.println("RoomTest: " + (made - start) + " bytes for an object, " + (end - made) + " for its calls");
        CHECK.due("bytes of an object, at most", Math.max(30000, made - start), 30000);
        CHECK.due("bytes of its calls, at most", Math.max(1000, end - made), 1000);
        CHECK.end("RoomTest");
    }

    private static void run(WordRation x) {
        for (int i = 0; i < TOWN.length(); i++) {
            x.feed(TOWN.charAt(i));
        }
        x.town();
        for (int i = 0; i < 7; i++) {
            x.drift(1);
            x.say(0, 0);
            x.hoard(1, 1, 1);
            x.sell(1, 0, 1, 1);
            x.around(0, 1, 0);
            x.raise(0, 1);
            x.point(3);
            x.day(3);
            x.undo();
            x.cheapest(0, 1, 0);
            x.cheapest(0, 1, 1);
            x.runsOut(0);
            x.willBe(99);
            x.plan(-1);
            x.plan(0);
            x.price(0);
            x.sells(0, 0);
            x.share(0, 0);
            x.more(0);
            x.fire(9, 20);
            x.rhymes(0);
            x.silent(60, 99);
            x.knot(0, 0, true);
            x.who();
            x.ask();
            x.write(0, 0);
            x.judge();
            x.tear();
            x.keep(0);
            x.goBack(0);
            x.seed(i);
            for (int what = 0; what < 16; what++) {
                x.told(what);
            }
        }
        x.feed('x');
        x.town();
    }
}
