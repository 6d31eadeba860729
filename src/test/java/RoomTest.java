import java.lang.management.ManagementFactory;

/** All calls of a run live in one room: a new object is small, and no call makes anything. */
public final class RoomTest {
    private static final int CALLS = 512;

    public static void main(String[] args) {
        long sum = play(new PloughField(), 1);
        com.sun.management.ThreadMXBean threads =
                (com.sun.management.ThreadMXBean) ManagementFactory.getThreadMXBean();
        long me = Thread.currentThread().getId();
        threads.getThreadAllocatedBytes(me);
        long before = threads.getThreadAllocatedBytes(me);
        PloughField x = new PloughField();
        long made = threads.getThreadAllocatedBytes(me) - before;
        Check.due("a new object takes " + made + " bytes, below 64,000", made < 64000, true);
        before = threads.getThreadAllocatedBytes(me);
        sum += play(x, 2);
        long used = threads.getThreadAllocatedBytes(me) - before;
        Check.due(CALLS + " calls make " + used + " bytes, below 2,000", used < 2000, true);
        Check.due("something was answered", sum != 0, true);
        Check.end();
    }

    private static long play(PloughField x, int seed) {
        long sum = x.kind(true, seed, 50, 60, 70, 80) + x.kind(false, 3, 20, 60, 30, 10);
        for (int i = 0; i < CALLS - 2; i++) {
            int n = i * 37 + seed;
            switch (i % 30) {
                case 0: sum += x.land(n % 64, n % 100, n % 700) ? 1 : 0; break;
                case 1: sum += x.set(n % 4, n % 15) ? 1 : 0; break;
                case 2: sum += x.rain(400 + n % 300, 710, 20); break;
                case 3: sum += x.cart(n % 4, 5, 300, n % 64, 50); break;
                case 4: sum += x.charge(n % 8) ? 1 : 0; break;
                case 5: sum += x.work(n % 4, n % 64, n % 4 == 2 ? 5 : 0); break;
                case 6: sum += x.lot(n % 100); break;
                case 7: sum += x.share(n % 64, n % 5); break;
                case 8: sum += x.plant(n % 64) ? 1 : 0; break;
                case 9: sum += x.show(n % 64, n % 16) ? 1 : 0; break;
                case 10: sum += x.look(n % 64, n % 16) ? 1 : 0; break;
                case 11: sum += x.ill(n % 64, true) ? 1 : 0; break;
                case 12: sum += x.pass(30); break;
                case 13: sum += x.cell(n % 64, n % 11); break;
                case 14: sum += x.told(n % 8, n % 6); break;
                case 15: sum += x.job(n % 60, n % 5); break;
                case 16: sum += x.way(n % 8, n % 64, n % 3); break;
                case 17: sum += x.water(n % 3); break;
                case 18: sum += x.spot(n % 65, n % 3); break;
                case 19: sum += x.pull(n % 4, n % 65, 0); break;
                case 20: sum += x.strip(n % 2, n % 10000); break;
                case 21: sum += x.better(n % 3); break;
                case 22: sum += x.feed(0x74616b65, 0x20696620, 0x7765743c, 0x353b6c6f, 0x6f6b3b20); break;
                case 23: sum += x.rules(n % 21); break;
                case 24: sum += x.fault(); break;
                case 25: sum += x.act(n % 64, n % 3); break;
                case 26: sum += x.plan(n % 64); break;
                case 27: sum += x.count(n % 17); break;
                default: sum += x.again(n % 3, n % 8, n % 64, n % 11); break;
            }
        }
        return sum;
    }
}
