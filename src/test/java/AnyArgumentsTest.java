import java.util.Random;

/** No call may throw, for any arguments in any state: numbers at, near and far beyond all edges. */
public final class AnyArgumentsTest {
    private static final int[] EDGES = {Integer.MIN_VALUE, Integer.MIN_VALUE + 1, -2000000000, -65, -64, -3, -2, -1, 0, 1,
        2, 3, 4, 5, 7, 8, 9, 10, 11, 14, 15, 16, 19, 20, 23, 24, 27, 28, 30, 49, 50, 59, 60, 62, 63, 64, 65, 99, 100, 163,
        164, 200, 500, 501, 718, 719, 720, 999, 1000, 9999, 10000, 2000000000, Integer.MAX_VALUE - 1,
        Integer.MAX_VALUE};

    public static void main(String[] args) {
        for (int seed = 0; seed < 300; seed++) {
            run(new Random(seed), seed);
        }
        Check.end();
    }

    private static void run(Random random, int seed) {
        PloughField x = new PloughField();
        x.kind(true, 5, 50, 60, 70, 80);
        for (int i = 0; i < 511; i++) {
            int which = random.nextInt(30);
            int[] a = new int[6];
            for (int k = 0; k < 6; k++) {
                a[k] = random.nextInt(3) > 0 ? EDGES[8 + random.nextInt(30)] : EDGES[random.nextInt(EDGES.length)];
            }
            String thrown = "";
            try {
                call(x, which, a, random.nextBoolean());
            } catch (RuntimeException | Error e) {
                thrown = e.toString();
            }
            Check.due("seed " + seed + " call " + i + " of sort " + which + " throws " + thrown, thrown.length(), 0);
        }
    }

    private static void call(PloughField x, int which, int[] a, boolean is) {
        switch (which) {
            case 0: x.land(a[0], a[1], a[2]); break;
            case 1: x.set(a[0], a[1]); break;
            case 2: x.rain(a[0], a[1], a[2]); break;
            case 3: x.cart(a[0], a[1], a[2], a[3], a[4]); break;
            case 4: x.charge(a[0]); break;
            case 5: x.work(a[0], a[1], is ? 0 : a[2]); break;
            case 6: x.lot(a[0]); break;
            case 7: x.kind(is, a[0], a[1], a[2], a[3], a[4]); break;
            case 8: x.plant(a[0]); break;
            case 9: x.show(a[0], a[1]); break;
            case 10: x.look(a[0], a[1]); break;
            case 11: x.ill(a[0], is); break;
            case 12: x.pass(a[0]); break;
            case 13: x.cell(a[0], a[1]); break;
            case 14: x.share(a[0], a[1]); break;
            case 15: x.told(a[0], a[1]); break;
            case 16: x.job(a[0], a[1]); break;
            case 17: x.way(a[0], a[1], a[2]); break;
            case 18: x.water(a[0]); break;
            case 19: x.spot(a[0], a[1]); break;
            case 20: x.pull(a[0], a[1], a[2]); break;
            case 21: x.strip(a[0], a[1]); break;
            case 22: x.better(a[0]); break;
            case 23: x.feed(is ? 0x74616b65 : a[0], is ? 0x3b6c6f6f : a[1], is ? 0x6b3b2020 : a[2], a[3], a[4]); break;
            case 24: x.rules(is ? 10 : a[0]); break;
            case 25: x.fault(); break;
            case 26: x.act(a[0], a[1]); break;
            case 27: x.plan(a[0]); break;
            case 28: x.again(a[0], a[1], a[2], a[3]); break;
            default: x.count(a[0]); break;
        }
    }
}
