import java.lang.management.ManagementFactory;

/** The dearest calls, again and again, in a full journal: they must make next to no objects, and end soon. */
public final class RoomTest {
    private static long sum;

    public static void main(String[] args) {
        com.sun.management.ThreadMXBean threads = (com.sun.management.ThreadMXBean) ManagementFactory.getThreadMXBean();
        long thread = Thread.currentThread().getId();
        sum += new WeirLedger().count(0);
        long atFirst = threads.getThreadAllocatedBytes(thread);
        WeirLedger x = new WeirLedger();
        long made = threads.getThreadAllocatedBytes(thread) - atFirst;
        fill(x);
        askAll(x);
        long before = threads.getThreadAllocatedBytes(thread);
        long begin = System.nanoTime();
        for (int k = 0; k < 12; k++) {
            askAll(x);
        }
        long millis = (System.nanoTime() - begin) / 1000000;
        long bytes = threads.getThreadAllocatedBytes(thread) - before;
        System.out.println("room: an object has " + made + " bytes, asking " + bytes + " bytes in " + millis + " ms");
        boolean good = made < 50000 && bytes < 4000 && millis < 60000 && sum != 0;
        System.exit(good ? 0 : 1);
    }

    private static void tell(WeirLedger x, String text) {
        new Caller(x).feedText(text);
    }

    private static void fill(WeirLedger x) {
        tell(x, "fund hurdle 90 catch 100 carry 20 dealwise tax 25 held 50 fee 10;investor 9999;investor 9998;investor 9997;"
                + "investor 9996;investor 9995;investor 9994;deals 6;excuse 0 1;excuse 1 2");
        x.fund();
        for (int d = 0; d < 6; d++) {
            x.call(d, 9000);
            x.mark(d, 9000 + 100 * d);
        }
        for (int k = 0; k < 20; k++) {
            x.quarters(10);
            x.sell(k % 6, 900, false);
        }
        x.move(0, 1, 1);
        x.fail(2);
        for (int k = 0; k < 6; k++) {
            x.mark(5, 9000 + k);
        }
    }

    private static void askAll(WeirLedger x) {
        for (int d = -1; d < 6; d++) {
            for (int k = 0; k < 4; k++) {
                sum += x.needed(d, k) + x.filling(d, 99999, k);
            }
            sum += x.reaches(d, 99999) + x.reaches(d, 1000) + x.owed(d, 0);
        }
        sum += x.order(-1) + x.bar(99999) + x.clean() + x.idle() + x.blame() + x.most() + x.patience(99999) + x.soldOut(2);
        for (int i = -1; i < 6; i++) {
            sum += x.rate(i) + x.multiple(i);
        }
        for (int k = 0; k < 50; k++) {
            sum += x.without(k) + x.behind(k, 3);
        }
        x.image();
        x.undo();
        sum += x.back() ? 1 : 0;
    }
}
