import java.lang.management.ManagementFactory;
import java.util.Random;

/** No call throws by itself, whatever it is given, and no call makes an object. */
public final class RoomTest {
    private static final int[] EDGES = {Integer.MIN_VALUE, Integer.MIN_VALUE + 1, -7001, -7000, -3000, -2999, -21, -9,
        -2, -1, 0, 1, 2, 3, 4, 5, 6, 7, 8, 9, 10, 12, 16, 17, 18, 20, 23, 24, 25, 39, 40, 41, 60, 61, 79, 80, 81, 97,
        99, 100, 122, 128, 255, 256, 300, 500, 501, 999, 1000, 1999, 2000, 2001, 20000, 20001, 99999, 100000,
        Integer.MAX_VALUE - 1, Integer.MAX_VALUE};

    private final Random random;

    private RoomTest(int seed) {
        random = new Random(seed);
    }

    public static void main(String[] args) {
        Check c = new Check();
        anyArguments(c);
        nothingIsMade(c);
        c.end();
    }

    private static void anyArguments(Check c) {
        for (int seed = 0; seed < 300; seed++) {
            RoomTest r = new RoomTest(seed);
            YoungBuyers x = new YoungBuyers();
            int call = -1;
            try {
                // More calls than are promised: later ones may answer anything, but end as quietly.
                for (int i = 0; i < 2000; i++) {
                    call = r.random.nextInt(34);
                    r.any(x, call);
                }
            } catch (RuntimeException e) {
                c.isTrue("seed " + seed + ", call " + call + " threw " + e, false);
            }
            c.isTrue("days", x.count(0) >= 0 && x.count(0) <= 2000);
        }
    }

    private int n() {
        return random.nextInt(4) == 0 ? EDGES[random.nextInt(EDGES.length)] : random.nextInt(10);
    }

    private void any(YoungBuyers x, int call) {
        boolean on = random.nextInt(4) > 0;
        switch (call) {
            case 0 -> x.days(n());
            case 1 -> x.shop(n(), n(), n(), n());
            case 2 -> x.weight(n(), n());
            case 3 -> x.open(n(), on);
            case 4 -> x.sell(n());
            case 5 -> x.child(n(), random.nextBoolean() ? -4000 : n());
            case 6 -> x.guess(n(), n());
            case 7 -> x.childOf(n(), n());
            case 8 -> x.known(n(), n(), on);
            case 9 -> x.draw(n(), n());
            case 10 -> x.drawn(n(), n());
            case 11 -> Check.backThrows(x, n());
            case 12 -> x.feed(n(), random.nextBoolean() ? 0x2873267C21282828L : random.nextLong());
            case 13 -> {
                Check.feed(x, random.nextBoolean() ? "s|!(a<b+1)" : "((((((");
                x.rule(n(), random.nextBoolean() ? x.count(0) : n());
            }
            case 14 -> x.force(n(), n());
            case 15, 16 -> x.test(n(), n(), n(), on ? x.count(0) : n(), n(), n());
            case 17 -> x.appeal(n());
            case 18 -> x.testOf(n(), n(), n());
            case 19 -> x.fact(n(), on ? x.count(0) : n(), on ? 97 + n() : n());
            case 20 -> x.step(n(), n(), n());
            case 21 -> x.lost();
            case 22 -> x.leave(n());
            case 23 -> x.work(n(), n(), n());
            case 24 -> x.workAt(n(), n(), on, n());
            case 25 -> x.letters(n());
            case 26 -> x.letter(n());
            case 27 -> x.helped(n(), n());
            case 28 -> x.wards(n(), n(), n(), n());
            case 29 -> x.clerk(n(), n(), n(), n(), on ? x.count(0) : n());
            case 30 -> x.tally(n(), n());
            case 31 -> x.worst();
            case 32 -> x.cost(n(), n());
            default -> {
                x.most(n());
                x.count(n());
            }
        }
    }

    /** The room of a run is bounded, so what calls make is measured: it must be nothing. */
    private static void nothingIsMade(Check c) {
        if (!(ManagementFactory.getThreadMXBean() instanceof com.sun.management.ThreadMXBean bean)) {
            return;
        }
        full(new YoungBuyers());
        YoungBuyers x = new YoungBuyers();
        long before = bean.getCurrentThreadAllocatedBytes();
        long measuring = bean.getCurrentThreadAllocatedBytes() - before;
        before = bean.getCurrentThreadAllocatedBytes();
        full(x);
        long made = bean.getCurrentThreadAllocatedBytes() - before - measuring;
        c.due("bytes made by calls", made, 0);
        before = bean.getCurrentThreadAllocatedBytes();
        x = new YoungBuyers();
        made = bean.getCurrentThreadAllocatedBytes() - before - measuring;
        c.isTrue("a new object takes " + made + " bytes", made < 40000 && x.count(0) == 0);
    }

    private static void full(YoungBuyers x) {
        for (int i = 0; i < 40; i++) {
            x.shop(i % 5, i % 4, i, 60 - i);
            x.weight(i, i % 20 + 1);
        }
        for (int i = 0; i < 8; i++) {
            x.child(i, -5000 + i);
            x.guess(i, 12 + i);
        }
        for (int use = 0; use < 5; use++) {
            x.feed(8, 0x297330217C303E68L);
            x.rule(use, 0);
            x.feed(7, 0x297328217C3E68L);
            x.rule(use, 0);
            x.feed(3, 0x303E68L);
            x.rule(use, 0);
        }
        x.clerk(1, 0, 0, 24, 0);
        x.draw(20, 500);
        x.letters(7);
        for (int i = 0; i < 100; i++) {
            x.test(i % 40, i % 8, 0, 0, 1 + i % 20, i % 8);
        }
        x.work(0, 1, 0);
        x.workAt(0, 1, true, 1);
        x.back(0);
        x.back(3);
        x.drawn(3, 1);
        x.helped(0, 0);
        x.wards(0, 1, 0, 6);
        x.fact(50, 0, 'o');
        x.testOf(50, 0, 2);
        x.step(3, 0, 0);
        x.lost();
        x.worst();
        x.tally(1, 0);
        x.most(200);
        x.count(7);
        x.days(0);
    }
}
