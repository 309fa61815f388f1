import java.lang.management.ManagementFactory;

/** What is made is made by the constructor, and is small: the calls make nothing. */
public final class RoomTest {
    private static final int ROUNDS = 2000;

    public static void main(String[] args) {
        FairSlots x = Check.made(2, "2/3;2/5;1/6e;1/7");
        int sum = 0;
        // Once around first, so that what the machine itself makes of new code does not count.
        for (int k = 0; k < 200; k++) {
            sum += dearCalls(x, k);
        }
        long before = made();
        for (int k = 0; k < ROUNDS; k++) {
            sum += dearCalls(x, k);
        }
        long each = (made() - before) / ROUNDS;
        System.out.println("bytes made by a round of calls: " + each + " (" + sum + ")");
        Check.due("calls make next to nothing", each < 64, true);
        before = made();
        FairSlots y = new FairSlots();
        long bytes = made() - before;
        System.out.println("bytes of a new object: " + bytes + " (" + y.count(1) + ")");
        Check.due("a new object is small", bytes < 40000, true);
        Check.finish("RoomTest");
    }

    private static long made() {
        return ((com.sun.management.ThreadMXBean) ManagementFactory.getThreadMXBean())
            .getThreadAllocatedBytes(Thread.currentThread().getId());
    }

    private static int dearCalls(FairSlots x, int k) {
        int sum = 0;
        x.keep(0);
        x.sign(0x312f3132);
        sum += x.joins();
        x.sign(0x2a6e3132);
        x.sign(0x68306830);
        sum += x.shift();
        sum += x.slot() + x.slots(7) + x.hurries(0) + x.leaves(0) + x.processors(3) + x.undo();
        sum += x.order() + x.behind() + x.ahead(1) + x.lag(1) + x.use();
        sum += x.runs(99) + x.when(1, 60) + x.misses() + x.round() + x.share(1, 60) + x.pairs(60) + x.lags(60);
        sum += x.flow(8) + x.waits(1) + x.room() + x.fewest();
        sum += x.heard(0, 3) + x.fits() + x.asks() + x.forget();
        sum += x.saw(2, 1) + x.weights() + x.looks() + x.denies();
        sum += x.odds(8, 4, 3) + x.divisors(200) + x.rests(9);
        x.sign(0x62647267);
        sum += x.law() + x.years(k, 60);
        x.sign(0x64626700);
        x.end(3);
        sum += x.ties() + x.sheet(0, 4, k, 1) + x.count(2);
        x.again(0);
        return sum;
    }
}
