/** Promises 2 to 13: the calls that are told, with their edges and their limits. */
public final class ToldTest {
    private static final int LOW = Integer.MIN_VALUE;
    private static final int HIGH = Integer.MAX_VALUE;

    public static void main(String[] args) {
        promise2Land();
        promise3Set();
        promise4Rain();
        promise5Cart();
        promise6Charge();
        promise7Work();
        promise8Lot();
        promise9Kind();
        promise10Plant();
        promise11Show();
        promise12Look();
        promise13Ill();
        fourHundredAreTold();
        Check.end();
    }

    private static void promise2Land() {
        PloughField x = new PloughField();
        Check.due("land least", x.land(0, 0, 0), true);
        Check.due("land most", x.land(63, 99, 999), true);
        Check.due("height", x.cell(63, 0), 99);
        Check.due("wet", x.cell(63, 1), 999);
        int[][] wrong = {{-1, 0, 0}, {64, 0, 0}, {0, -1, 0}, {0, 100, 0}, {0, 0, -1}, {0, 0, 1000},
            {LOW, 5, 5}, {HIGH, 5, 5}, {5, LOW, 5}, {5, HIGH, 5}, {5, 5, LOW}, {5, 5, HIGH}};
        for (int[] w : wrong) {
            Check.due("land wrong " + w[0] + " " + w[1] + " " + w[2], x.land(w[0], w[1], w[2]), false);
        }
        Check.due("land anew", x.land(63, 4, 7), true);
        Check.due("height anew", x.cell(63, 0), 4);
        Check.due("wet anew", x.cell(63, 1), 7);
        Check.due("told", x.count(1), 3);
        Check.due("land adds to no fallen water", x.water(1), 0);
        Check.due("land adds to no lost water", x.water(2), 0);
    }

    private static void promise3Set() {
        int[] least = {1, 1, 0, 0};
        int[] most = {9999, 9999, 100, 14};
        PloughField x = new PloughField();
        for (int what = 0; what < 4; what++) {
            Check.due("set least " + what, x.set(what, least[what]), true);
            Check.due("set most " + what, x.set(what, most[what]), true);
            Check.due("set below " + what, x.set(what, least[what] - 1), false);
            Check.due("set above " + what, x.set(what, most[what] + 1), false);
            Check.due("set lowest " + what, x.set(what, LOW), false);
            Check.due("set highest " + what, x.set(what, HIGH), false);
        }
        Check.due("set no such", x.set(-1, 1), false);
        Check.due("set no such", x.set(4, 1), false);
        Check.due("told", x.count(1), 8);
        // LIMIT 500 at first: a cart of 50 on wet 899 is HEAVY 450, on wet 999 it is 500, with PRESS 1 more it isn't borne
        PloughField y = new PloughField();
        y.land(1, 0, 999);
        y.cart(0, 50, 999, 0, 100);
        Check.due("limit 500 at first", y.way(0, 1, 0), 500);
        y.set(0, 499);
        Check.due("limit 499: another way or none", y.way(0, 1, 0), -1);
        y.set(0, 500);
        Check.due("limit 500 again", y.way(0, 1, 0), 500);
    }

    private static void promise4Rain() {
        PloughField x = new PloughField();
        Check.due("rain at now", x.rain(0, 5, 10), -1);
        Check.due("rain", x.rain(1, 1, 1), 0);
        Check.due("rain to the last hour", x.rain(1, 719, 99), 1);
        int[][] wrong = {{5, 4, 10}, {1, 720, 10}, {720, 720, 10}, {1, 2, 0}, {1, 2, 100}, {-1, 2, 10},
            {LOW, HIGH, 10}, {1, HIGH, 10}, {HIGH, HIGH, 10}, {1, LOW, 10}, {1, 2, LOW}, {1, 2, HIGH}};
        for (int[] w : wrong) {
            Check.due("rain wrong " + w[0] + " " + w[1] + " " + w[2], x.rain(w[0], w[1], w[2]), -1);
        }
        x.pass(3);
        Check.due("rain not later than now", x.rain(3, 9, 10), -1);
        for (int i = 2; i < 30; i++) {
            Check.due("rain " + i, x.rain(4, 9, 10), i);
        }
        Check.due("31st rain", x.rain(4, 9, 10), -1);
        Check.due("rains", x.count(2), 30);
        Check.due("told", x.count(1), 30);
    }

    private static void promise5Cart() {
        PloughField x = new PloughField();
        int[][] wrong = {{-1, 1, 50, 0, 10}, {4, 1, 50, 0, 10}, {0, 0, 50, 0, 10}, {0, 51, 50, 0, 10},
            {0, 1, 49, 0, 10}, {0, 1, 1000, 0, 10}, {0, 1, 50, -1, 10}, {0, 1, 50, 64, 10}, {0, 1, 50, 0, 9},
            {0, 1, 50, 0, 501}, {LOW, 1, 50, 0, 10}, {0, HIGH, 50, 0, 10}, {0, 1, LOW, 0, 10},
            {0, 1, 50, HIGH, 10}, {0, 1, 50, 0, LOW}};
        for (int i = 0; i < wrong.length; i++) {
            int[] w = wrong[i];
            Check.due("cart wrong " + i, x.cart(w[0], w[1], w[2], w[3], w[4]), -1);
        }
        Check.due("cart least", x.cart(0, 1, 50, 0, 10), 0);
        Check.due("cart most", x.cart(3, 50, 999, 63, 500), 1);
        int[] want = {3, 63, 500, 0, -1, 0};
        for (int what = 0; what < want.length; what++) {
            Check.due("cart fact " + what, x.told(1, what), want[what]);
        }
        for (int i = 2; i < 8; i++) {
            Check.due("cart " + i, x.cart(1, 5, 100, 7, 20), i);
        }
        Check.due("9th cart", x.cart(1, 5, 100, 7, 20), -1);
        Check.due("carts", x.count(3), 8);
        Check.due("told", x.count(1), 8);
    }

    private static void promise6Charge() {
        PloughField x = new PloughField();
        Check.due("no such cart", x.charge(0), false);
        x.cart(0, 1, 999, 0, 10);
        Check.due("not flat", x.charge(0), false);
        Check.due("wrong", x.charge(-1), false);
        Check.due("wrong", x.charge(1), false);
        Check.due("wrong", x.charge(LOW), false);
        x.work(0, 63, 0);
        x.pass(10);
        Check.due("charge is used up", x.told(0, 2), 0);
        Check.due("it goes still", x.told(0, 3), 1);
        x.pass(1);
        Check.due("it's flat", x.told(0, 3), 5);
        Check.due("its work is open", x.job(0, 3), 0);
        Check.due("nobody has it", x.job(0, 4), -1);
        Check.due("charge", x.charge(0), true);
        Check.due("it's full", x.told(0, 2), 10);
        Check.due("it's idle", x.told(0, 3), 0);
        Check.due("charge twice", x.charge(0), false);
        Check.due("told", x.count(1), 3);
    }

    private static void promise7Work() {
        PloughField x = new PloughField();
        int[][] wrong = {{-1, 0, 0}, {4, 0, 0}, {0, -1, 0}, {0, 64, 0}, {0, 0, 1}, {1, 0, 1}, {3, 0, 5}, {2, 0, 0},
            {2, 0, 1000}, {2, 0, -1}, {0, 0, -1}, {LOW, 0, 0}, {2, HIGH, 5}, {2, 0, HIGH}, {0, 0, LOW}};
        for (int[] w : wrong) {
            Check.due("work wrong " + w[0] + " " + w[1] + " " + w[2], x.work(w[0], w[1], w[2]), -1);
        }
        Check.due("look", x.work(0, 63, 0), 0);
        Check.due("take", x.work(1, 0, 0), 1);
        Check.due("give least", x.work(2, 5, 1), 2);
        Check.due("give most", x.work(2, 5, 999), 3);
        Check.due("pull", x.work(3, 5, 0), 4);
        for (int i = 5; i < 60; i++) {
            Check.due("work " + i, x.work(0, 1, 0), i);
        }
        Check.due("61st work", x.work(0, 1, 0), -1);
        Check.due("works", x.count(4), 60);
        Check.due("all open", x.count(5), 60);
        Check.due("told", x.count(1), 60);
    }

    private static void promise8Lot() {
        PloughField x = new PloughField();
        Check.due("lot wrong", x.lot(-1), -1);
        Check.due("lot wrong", x.lot(100), -1);
        Check.due("lot wrong", x.lot(LOW), -1);
        Check.due("lot wrong", x.lot(HIGH), -1);
        for (int i = 1; i <= 40; i++) {
            Check.due("lot " + i, x.lot(i % 2 == 0 ? 0 : 99), i);
        }
        Check.due("41st lot", x.lot(5), -1);
        Check.due("lots", x.count(7), 40);
        Check.due("told", x.count(1), 40);
    }

    private static void promise9Kind() {
        PloughField x = new PloughField();
        Check.due("prior 0", x.kind(true, 0, 1, 1, 1, 1), -1);
        Check.due("prior 101", x.kind(true, 101, 1, 1, 1, 1), -1);
        int[] wrong = {0, 100, -1, LOW, HIGH};
        for (int w : wrong) {
            Check.due("a " + w, x.kind(true, 1, w, 1, 1, 1), -1);
            Check.due("b " + w, x.kind(true, 1, 1, w, 1, 1), -1);
            Check.due("c " + w, x.kind(true, 1, 1, 1, w, 1), -1);
            Check.due("d " + w, x.kind(true, 1, 1, 1, 1, w), -1);
        }
        Check.due("kind least", x.kind(true, 1, 1, 1, 1, 1), 0);
        Check.due("kind most", x.kind(false, 100, 99, 99, 99, 99), 1);
        for (int i = 2; i < 5; i++) {
            Check.due("kind " + i, x.kind(false, 5, 50, 50, 50, 50), i);
        }
        Check.due("6th kind", x.kind(false, 5, 50, 50, 50, 50), -1);
        Check.due("kinds", x.count(8), 5);
        Check.due("told", x.count(1), 5);
    }

    private static void promise10Plant() {
        PloughField x = new PloughField();
        Check.due("no kind yet", x.plant(0), false);
        x.kind(true, 1, 50, 50, 50, 50);
        Check.due("plant", x.plant(0), true);
        Check.due("one stands", x.plant(0), false);
        Check.due("plant at the end", x.plant(63), true);
        Check.due("no such cell", x.plant(64), false);
        Check.due("no such cell", x.plant(-1), false);
        Check.due("no such cell", x.plant(HIGH), false);
        Check.due("stands", x.cell(63, 3), 1);
        Check.due("told", x.count(1), 3);
        Check.due("plants", x.count(9), 2);
    }

    private static void promise11Show() {
        PloughField x = new PloughField();
        Check.due("show without a plant", x.show(5, 15), true);
        Check.due("shown", x.cell(5, 8), 15);
        Check.due("show 0", x.show(5, 0), true);
        Check.due("shown", x.cell(5, 8), 0);
        Check.due("show wrong", x.show(5, 16), false);
        Check.due("show wrong", x.show(5, -1), false);
        Check.due("show wrong", x.show(64, 1), false);
        Check.due("show wrong", x.show(-1, 1), false);
        Check.due("show wrong", x.show(LOW, HIGH), false);
        Check.due("told", x.count(1), 2);
    }

    private static void promise12Look() {
        PloughField x = new PloughField();
        x.kind(true, 1, 80, 50, 50, 50);
        x.kind(false, 1, 20, 50, 50, 50);
        x.plant(5);
        Check.due("none there", x.look(4, 1), false);
        Check.due("look wrong", x.look(5, 16), false);
        Check.due("look wrong", x.look(5, -1), false);
        Check.due("look wrong", x.look(-1, 1), false);
        Check.due("look wrong", x.look(64, 1), false);
        Check.due("not seen yet", x.cell(5, 6), 0);
        Check.due("look", x.look(5, 1), true);
        Check.due("seen", x.cell(5, 6), 1);
        Check.due("share", x.share(5, 0), 800000000);
        Check.due("look 15", x.look(5, 15), true);
        Check.due("share", x.share(5, 0), 941176470);
        Check.due("look 0", x.look(5, 0), true);
        Check.due("told", x.count(1), 6);
    }

    private static void promise13Ill() {
        PloughField x = new PloughField();
        x.kind(true, 1, 80, 50, 50, 50);
        x.plant(5);
        Check.due("none there", x.ill(4, true), false);
        Check.due("no such cell", x.ill(64, true), false);
        Check.due("no such cell", x.ill(-1, false), false);
        Check.due("it's so", x.ill(5, false), false);
        Check.due("ill", x.ill(5, true), true);
        Check.due("is ill", x.cell(5, 5), 1);
        Check.due("it's so", x.ill(5, true), false);
        Check.due("no more", x.ill(5, false), true);
        Check.due("is not ill", x.cell(5, 5), 0);
        Check.due("told", x.count(1), 4);
    }

    private static void fourHundredAreTold() {
        PloughField x = new PloughField();
        x.kind(true, 1, 50, 50, 50, 50);
        x.plant(0);
        x.cart(0, 1, 999, 0, 10);
        x.work(0, 63, 0);
        x.pass(11);
        Check.due("a cart is flat", x.told(0, 3), 5);
        Check.rules(x, "take;");
        for (int i = 4; i < 400; i++) {
            Check.due("told " + i, x.land(i % 64, 1, 1), true);
        }
        Check.due("400 told", x.count(1), 400);
        Check.due("land", x.land(1, 2, 3), false);
        Check.due("land did nothing", x.cell(1, 0), 1);
        Check.due("set", x.set(0, 5), false);
        Check.due("rain", x.rain(600, 601, 5), -1);
        Check.due("cart", x.cart(0, 1, 999, 0, 10), -1);
        Check.due("charge", x.charge(0), false);
        Check.due("still flat", x.told(0, 3), 5);
        Check.due("work", x.work(0, 63, 0), -1);
        Check.due("lot", x.lot(5), -1);
        Check.due("kind", x.kind(true, 1, 50, 50, 50, 50), -1);
        Check.due("plant", x.plant(1), false);
        Check.due("show", x.show(1, 1), false);
        Check.due("look", x.look(0, 1), false);
        Check.due("ill", x.ill(0, true), false);
        Check.due("plan", x.plan(0), -1);
        int[] want = {11, 400, 0, 1, 1, 1, 0, 0, 1, 1, 0};
        for (int what = 0; what < want.length; what++) {
            Check.due("count " + what, x.count(what), want[what]);
        }
        Check.due("hours go by still", x.pass(1), 12);
        Check.due("strips are dealt still", x.strip(0, 1), 0);
    }
}
