/** Promise 30: all of it played again without one rain, cart or work. */
public final class AgainTest {
    public static void main(String[] args) {
        noneSuch();
        withoutRain();
        withoutCart();
        withoutWork();
        cartIsNotHeardOf();
        toldAtItsHour();
        playedAgainNothing();
        lotsByThen();
        chargedOnlyIfFlat();
        kindsByThen();
        askedAgainLater();
        eachPlaysFromTheBeginning();
        liveStaysAsItIs();
        Check.end();
    }

    private static void noneSuch() {
        PloughField x = new PloughField();
        for (int without = -1; without <= 3; without++) {
            Check.due("nothing told " + without, x.again(without, 0, 0, 0), -1);
        }
        x.rain(1, 1, 5);
        x.cart(0, 1, 999, 0, 10);
        x.work(0, 0, 0);
        x.land(5, 3, 0);
        for (int without = 0; without <= 2; without++) {
            Check.due("there " + without, x.again(without, 0, 5, 0), 3);
            Check.due("number 1 " + without, x.again(without, 1, 5, 0), -1);
            Check.due("number -1 " + without, x.again(without, -1, 5, 0), -1);
            Check.due("cell -1 " + without, x.again(without, 0, -1, 0), -1);
            Check.due("cell 64 " + without, x.again(without, 0, 64, 0), -1);
            Check.due("what -1 " + without, x.again(without, 0, 5, -1), -1);
            Check.due("what 11 " + without, x.again(without, 0, 5, 11), -1);
        }
        Check.due("without 3", x.again(3, 0, 5, 0), -1);
        Check.due("without -1", x.again(-1, 0, 5, 0), -1);
        Check.due("without low", x.again(Integer.MIN_VALUE, Integer.MAX_VALUE, 5, 0), -1);
        Check.due("asking isn't told", x.count(1), 4);
    }

    private static void withoutRain() {
        PloughField x = new PloughField();
        x.kind(true, 1, 50, 50, 50, 50);
        x.plant(5);
        x.rain(1, 24, 90);
        x.rain(10, 10, 30);
        x.pass(24);
        Check.due("live wet", x.cell(5, 1), 24 * 89 + 30);
        Check.due("live drowned", x.cell(5, 10), 4);
        Check.due("without the first", x.again(0, 0, 5, 1), 30 - 15);
        Check.due("it stands", x.again(0, 0, 5, 10), 0);
        Check.due("its size", x.again(0, 0, 5, 4), 1);
        Check.due("without the second", x.again(0, 1, 5, 1), 24 * 89);
        Check.due("drowned all the same", x.again(0, 1, 5, 10), 4);
    }

    private static void withoutCart() {
        PloughField x = new PloughField();
        x.cart(0, 5, 999, 0, 100);
        x.cart(0, 6, 999, 0, 100);
        x.work(0, 2, 0);
        x.pass(3);
        Check.due("the light one went", x.cell(2, 2), 5);
        Check.due("without it the other", x.again(1, 0, 2, 2), 6);
        Check.due("without the other the light one", x.again(1, 1, 2, 2), 5);
    }

    private static void withoutWork() {
        PloughField x = new PloughField();
        x.kind(true, 1, 50, 50, 50, 50);
        x.plant(2);
        x.cart(1, 5, 999, 0, 100);
        x.work(1, 2, 0);
        x.work(1, 16, 0);
        x.pass(10);
        Check.due("taken", x.cell(2, 10), 2);
        Check.due("not taken without it", x.again(2, 0, 2, 10), 0);
        Check.due("nor pressed", x.again(2, 0, 2, 2), 0);
        Check.due("taken without the other", x.again(2, 1, 2, 10), 2);
        Check.due("16 isn't pressed without it", x.again(2, 1, 16, 2), 0);
        Check.due("live it is", x.cell(16, 2), 5);
    }

    private static void cartIsNotHeardOf() {
        // cart 0 sinks on 1 and cart 1 hears of it and goes around; without cart 0 it goes through
        PloughField x = new PloughField();
        x.cart(0, 1, 100, 0, 100);
        x.cart(1, 1, 999, 2, 100);
        x.land(1, 0, 150);
        x.work(0, 1, 0);
        x.pass(1);
        x.work(1, 0, 0);
        x.pass(5);
        Check.due("cart 1 went around", x.cell(10, 2), 1);
        Check.due("only cart 0 pressed 1", x.cell(1, 2), 2);
        Check.due("around still without the work of cart 1: no", x.again(2, 1, 10, 2), 0);
        Check.due("without cart 0 through", x.again(1, 0, 10, 2), 0);
        Check.due("cart 1 presses 1", x.again(1, 0, 1, 2), 2);
        Check.due("without its work nobody sinks", x.again(2, 0, 1, 2), 2);
        // a puller without the one that is stuck frees nobody, and the one not there isn't charged
        PloughField y = new PloughField();
        y.cart(0, 1, 999, 0, 10);
        y.work(0, 63, 0);
        y.pass(11);
        y.charge(0);
        y.pass(5);
        Check.due("it came", y.cell(63, 2), 1);
        Check.due("it did not", y.again(1, 0, 63, 2), 0);
    }

    private static void toldAtItsHour() {
        PloughField x = new PloughField();
        x.rain(1, 1, 10);
        x.land(0, 0, 100);
        x.pass(5);
        x.land(0, 0, 50);
        x.pass(5);
        Check.due("live", x.cell(0, 1), 45);
        Check.due("again", x.again(0, 0, 0, 1), 45);
        x.land(0, 0, 77);
        Check.due("told now", x.again(0, 0, 0, 1), 77);
        x.land(0, 9, 7);
        Check.due("in its order", x.again(0, 0, 0, 1), 7);
        Check.due("told now", x.again(0, 0, 0, 0), 9);
    }

    private static void playedAgainNothing() {
        // without the taking the plant stands, and planting, looking and making ill meet the old one
        PloughField x = new PloughField();
        x.kind(true, 1, 80, 50, 50, 50);
        x.plant(0);
        x.look(0, 1);
        x.cart(1, 1, 999, 0, 100);
        x.work(1, 0, 0);
        x.pass(24);
        x.plant(0);
        x.look(0, 1);
        x.ill(0, true);
        x.pass(24);
        Check.due("live: seen once", x.cell(0, 6), 1);
        Check.due("live: one day old", x.cell(0, 4), 1);
        Check.due("without the taking: seen twice", x.again(2, 0, 0, 6), 2);
        Check.due("without the taking: two days old", x.again(2, 0, 0, 4), 2);
        Check.due("ill", x.again(2, 0, 0, 5), 1);
        // without the rain the live one drowned; what was told of the one that stands does nothing
        PloughField y = new PloughField();
        y.kind(true, 1, 80, 50, 50, 50);
        y.land(1, 0, 0);
        y.land(0, 1, 700);
        y.plant(0);
        y.cart(0, 1, 999, 63, 100);
        y.cart(1, 1, 999, 0, 100);
        y.work(0, 62, 0);
        y.work(1, 0, 0);
        y.pass(1);
        y.plant(0);
        y.pass(2);
        y.look(0, 1);
        y.ill(0, true);
        y.work(1, 0, 0);
        y.pass(1);
        Check.due("taken twice", y.cell(0, 10), 2);
        Check.due("without cart 1 it stands", y.again(1, 1, 0, 10), 0);
        Check.due("and was seen", y.again(1, 1, 0, 6), 1);
        PloughField z = new PloughField();
        z.kind(true, 1, 80, 50, 50, 50);
        z.cart(1, 1, 999, 0, 100);
        z.cart(1, 1, 999, 9, 100);
        z.plant(0);
        z.work(1, 1, 0);
        z.work(1, 0, 0);
        z.pass(1);
        z.look(0, 1);
        z.ill(0, true);
        Check.due("it stands live", z.cell(0, 3), 1);
        Check.due("without work 0 it was taken", z.again(2, 0, 0, 10), 2);
        Check.due("not seen", z.again(2, 0, 0, 6), 0);
        Check.due("not ill", z.again(2, 0, 0, 5), 0);
    }

    private static void lotsByThen() {
        PloughField x = new PloughField();
        x.kind(true, 1, 80, 50, 50, 50);
        x.plant(0);
        x.plant(1);
        x.ill(0, true);
        x.lot(99);
        x.rain(1, 1, 1);
        x.pass(24);
        x.lot(0);
        x.pass(24);
        Check.due("as it was", x.again(0, 0, 1, 5), x.cell(1, 5));
        Check.due("not ill", x.again(0, 0, 1, 5), 0);
        x.pass(24);
        Check.due("ill", x.again(0, 0, 1, 5), 1);
    }

    private static void chargedOnlyIfFlat() {
        // without work 2 the cart isn't flat when it is charged: it goes on with what it has
        PloughField x = new PloughField();
        x.cart(0, 1, 999, 0, 20);
        x.work(0, 7, 0);
        x.work(0, 63, 0);
        x.work(0, 7, 0);
        x.pass(25);
        Check.due("flat", x.told(0, 3), 5);
        Check.due("charged", x.charge(0), true);
        x.work(0, 56, 0);
        x.pass(30);
        Check.due("live it comes to 56", x.cell(56, 2), 1);
        Check.due("without work 2 it comes to 57", x.again(2, 2, 57, 2), 1);
        Check.due("and no further", x.again(2, 2, 56, 2), 0);
        Check.due("without work 1 it has 13 left for 14 cells", x.again(2, 1, 56, 2), 0);
    }

    private static void kindsByThen() {
        PloughField x = new PloughField();
        x.kind(true, 1, 80, 50, 50, 50);
        x.plant(0);
        x.kind(false, 1, 80, 50, 50, 50);
        x.plant(1);
        x.rain(1, 1, 1);
        Check.due("weeds by then", x.again(0, 0, 0, 9), 100);
        Check.due("weeds by then", x.again(0, 0, 1, 9), 50);
    }

    private static void askedAgainLater() {
        PloughField x = new PloughField();
        x.rain(2, 4, 10);
        x.rain(3, 5, 20);
        x.cart(0, 3, 999, 0, 100);
        x.work(0, 7, 0);
        int[] without0 = {0, 0, 0, 19, 38, 57, 56, 55};
        int[] without1 = {0, 0, 9, 18, 27, 26, 25, 24};
        for (int hour = 1; hour <= 7; hour++) {
            x.pass(1);
            Check.due("without 0 at " + hour, x.again(0, 0, 63, 1), without0[hour]);
            if (hour % 2 == 0) {
                Check.due("without 1 at " + hour, x.again(0, 1, 63, 1), without1[hour]);
            }
            Check.due("without the cart at " + hour, x.again(1, 0, 1, 2), 0);
            Check.due("without rain 0 the cart goes", x.again(0, 0, 1, 2), 3);
        }
    }

    /** Something of every sort, told at hour 0 and at hour 24, with two rains of 1 in the first hours. */
    private static PloughField toldTwice() {
        PloughField x = new PloughField();
        x.rain(1, 1, 1);
        x.rain(2, 2, 1);
        x.kind(true, 1, 80, 50, 50, 50);
        x.lot(99);
        x.plant(0);
        x.plant(1);
        x.plant(60);
        x.ill(0, true);
        x.cart(0, 9, 999, 0, 500);
        x.work(0, 63, 0);
        x.pass(24);
        x.lot(0);
        x.kind(false, 1, 80, 50, 50, 50);
        x.show(7, 9);
        x.land(7, 50, 80);
        x.plant(7);
        x.set(2, 100);
        x.set(1, 1);
        x.set(3, 9);
        x.set(0, 1);
        x.ill(0, false);
        x.ill(60, true);
        x.pass(24);
        return x;
    }

    /** All that one playing leaves behind must be gone in the next. */
    private static void nothingIsLeftBehind(int cell) {
        PloughField x = toldTwice();
        for (int round = 0; round < 4; round++) {
            for (int what = 0; what <= 10; what++) {
                int want = what != 1 ? x.cell(cell, what) : cell == 7 ? 56 : 0;
                Check.due("without " + round % 2 + " " + cell + " " + what, x.again(0, round % 2, cell, what), want);
            }
        }
    }

    private static void eachPlaysFromTheBeginning() {
        for (int cell = 0; cell < 64; cell++) {
            nothingIsLeftBehind(cell);
        }
        // what is told at hour 1 must not be there at hour 0 when it is played a second time
        PloughField w = new PloughField();
        w.rain(9, 9, 1);
        w.rain(9, 9, 1);
        w.kind(true, 1, 90, 50, 50, 50);
        w.kind(false, 1, 10, 50, 50, 50);
        w.plant(9);
        w.land(20, 0, 300);
        w.lot(99);
        w.plant(40);
        w.plant(41);
        w.ill(40, true);
        w.cart(0, 1, 999, 9, 100);
        w.work(0, 9, 0);
        w.pass(24);
        w.lot(0);
        w.show(9, 1);
        w.land(20, 9, 300);
        w.pass(24);
        w.ill(9, true);
        int weeds = w.cell(9, 9);
        Check.due("seen without marks", weeds, 10);
        for (int i = 0; i < 4; i++) {
            Check.due("weeds", w.again(0, i % 2, 9, 9), 10);
            Check.due("wet", w.again(0, i % 2, 20, 1), w.cell(20, 1));
            Check.due("wet above it", w.again(0, i % 2, 12, 1), w.cell(12, 1));
            Check.due("lots", w.again(0, i % 2, 41, 5), 0);
            Check.due("ill", w.again(0, i % 2, 9, 5), 1);
        }
        // a plant that fell ill by what was told later must not be ill when it is played again
        PloughField y = new PloughField();
        y.rain(1, 1, 1);
        y.rain(1, 1, 1);
        y.kind(true, 1, 80, 50, 50, 50);
        y.lot(99);
        y.lot(0);
        y.lot(99);
        y.plant(0);
        y.plant(1);
        y.ill(0, true);
        y.pass(24);
        Check.due("not ill", y.again(0, 0, 1, 5), 0);
        Check.due("not ill", y.again(0, 1, 1, 5), 0);
        Check.due("not ill", y.again(0, 0, 1, 5), 0);
        // only the kinds told by then have a part in a plant
        PloughField z = new PloughField();
        z.rain(1, 1, 1);
        z.rain(1, 1, 1);
        z.kind(true, 1, 80, 50, 50, 50);
        z.plant(0);
        z.kind(false, 1, 80, 50, 50, 50);
        z.show(5, 7);
        z.land(6, 7, 0);
        for (int i = 0; i < 4; i++) {
            Check.due("weeds", z.again(0, i % 2, 0, 9), 100);
            Check.due("shown", z.again(0, i % 2, 5, 8), 7);
            Check.due("height", z.again(0, i % 2, 6, 0), 7);
        }
    }

    private static void liveStaysAsItIs() {
        PloughField x = new PloughField();
        x.rain(1, 9, 10);
        x.cart(0, 3, 999, 0, 100);
        x.work(0, 7, 0);
        x.pass(5);
        Check.due("again", x.again(0, 0, 1, 1), 0);
        Check.due("wet", x.cell(1, 1), 45);
        Check.due("hour", x.count(0), 5);
        Check.due("cart", x.told(0, 1), 5);
        Check.due("way", x.way(0, 7, 1), 2);
        Check.due("pass", x.pass(1), 6);
        Check.due("cart", x.told(0, 1), 6);
    }
}
