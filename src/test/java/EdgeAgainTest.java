/** The edges of playing again: part 5 of the document and promise 30. */
public final class EdgeAgainTest {
    private static final int LOW = Integer.MIN_VALUE;
    private static final int HIGH = Integer.MAX_VALUE;

    public static void main(String[] args) {
        numbersOfThose();
        cellsAndWhats();
        atHour0();
        atTheLastHour();
        withoutARainToCome();
        withoutARainOfOneHour();
        withoutTheOnlyCart();
        withoutTheOnlyWork();
        numbersStay();
        whoIsNotThereHearsNothing();
        whoIsNotThereIsNotPulled();
        whoIsNotThereIsNotCharged();
        chargedIfFlatThen();
        plantedWhereOneStands();
        seenWithoutAPlant();
        illWithoutAPlant();
        illAsItIs();
        plansArePlayedAsWorks();
        settingsAtTheirHour();
        toldAfterTheHourHasPassed();
        heightsAre0BeforeTheyAreTold();
        askedInTurn();
        Check.end();
    }

    private static void numbersOfThose() {
        PloughField x = new PloughField();
        x.land(5, 7, 0);
        for (int i = 0; i < 3; i++) {
            for (int without = 0; without <= 2; without++) {
                Check.due(i + " of " + without + " isn't there", x.again(without, i, 5, 0), -1);
            }
            x.rain(10, 11, 1);
            x.cart(0, 1, 999, 0, 10);
            x.work(1, 0, 0);
            for (int without = 0; without <= 2; without++) {
                Check.due(i + " of " + without, x.again(without, i, 5, 0), 7);
                Check.due("-1 of " + without, x.again(without, -1, 5, 0), -1);
                Check.due("low of " + without, x.again(without, LOW, 5, 0), -1);
                Check.due("high of " + without, x.again(without, HIGH, 5, 0), -1);
            }
        }
        int[] others = {-1, 3, LOW, HIGH};
        for (int other : others) {
            Check.due("without " + other, x.again(other, 0, 5, 0), -1);
        }
    }

    private static void cellsAndWhats() {
        PloughField x = new PloughField();
        x.rain(10, 11, 1);
        x.land(0, 98, 5);
        x.land(63, 99, 6);
        int[] whats = {-1, 0, 1, 10, 11, LOW, HIGH};
        int[] first = {-1, 98, 5, 1, -1, -1, -1};
        int[] last = {-1, 99, 6, 1, -1, -1, -1};
        for (int i = 0; i < whats.length; i++) {
            Check.due("of -1: " + whats[i], x.again(0, 0, -1, whats[i]), -1);
            Check.due("of 0: " + whats[i], x.again(0, 0, 0, whats[i]), first[i]);
            Check.due("of 63: " + whats[i], x.again(0, 0, 63, whats[i]), last[i]);
            Check.due("of 64: " + whats[i], x.again(0, 0, 64, whats[i]), -1);
        }
    }

    private static void atHour0() {
        PloughField x = new PloughField();
        x.rain(1, 1, 50);
        x.kind(true, 1, 50, 50, 50, 50);
        x.plant(3);
        x.look(3, 1);
        x.show(3, 9);
        x.ill(3, true);
        int[] want = {0, 0, 0, 1, 0, 1, 1, 0, 9, 100, 0};
        for (int what = 0; what <= 10; what++) {
            Check.due("at hour 0: " + what, x.again(0, 0, 3, what), want[what]);
        }
        x.pass(1);
        Check.due("live it's wet", x.cell(3, 1), 49);
        Check.due("again it's not", x.again(0, 0, 3, 1), 0);
    }

    private static void atTheLastHour() {
        PloughField x = new PloughField();
        x.rain(719, 719, 50);
        x.rain(1, 719, 2);
        x.kind(true, 1, 50, 50, 50, 50);
        x.plant(3);
        for (int i = 0; i < 3; i++) {
            x.pass(200);
        }
        x.pass(119);
        Check.due("live", x.cell(3, 1), 719 + 50);
        Check.due("without the last rain", x.again(0, 0, 3, 1), 719);
        Check.due("without the long one", x.again(0, 1, 3, 1), 49);
        Check.due("it drowned on the 26th day", x.cell(3, 10), 4);
        Check.due("not without the long one", x.again(0, 1, 3, 10), 0);
        Check.due("it grew 29 days", x.again(0, 1, 3, 4), 29);
    }

    private static void withoutARainToCome() {
        PloughField x = new PloughField();
        x.rain(6, 8, 50);
        x.pass(5);
        Check.due("it hasn't fallen", x.again(0, 0, 0, 1), x.cell(0, 1));
        x.pass(1);
        Check.due("live", x.cell(0, 1), 49);
        Check.due("again", x.again(0, 0, 0, 1), 0);
        x.pass(2);
        Check.due("live", x.cell(0, 1), 147);
        Check.due("again", x.again(0, 0, 0, 1), 0);
    }

    private static void withoutARainOfOneHour() {
        PloughField x = new PloughField();
        x.rain(2, 2, 99);
        x.rain(2, 2, 1);
        x.pass(2);
        Check.due("live", x.cell(63, 1), 99);
        Check.due("without 99", x.again(0, 0, 63, 1), 0);
        Check.due("without 1", x.again(0, 1, 63, 1), 98);
    }

    private static void withoutTheOnlyCart() {
        PloughField x = new PloughField();
        x.cart(0, 3, 999, 0, 100);
        x.work(0, 2, 0);
        x.pass(3);
        Check.due("live", x.cell(1, 2), 3);
        Check.due("again", x.again(1, 0, 1, 2), 0);
        Check.due("its work is done", x.job(0, 3), 2);
    }

    private static void withoutTheOnlyWork() {
        PloughField x = new PloughField();
        x.kind(true, 1, 50, 50, 50, 50);
        x.plant(0);
        x.cart(1, 3, 999, 0, 100);
        x.work(1, 0, 0);
        x.pass(1);
        Check.due("live", x.cell(0, 10), 2);
        Check.due("again it stands", x.again(2, 0, 0, 10), 0);
        Check.due("again it stands", x.again(2, 0, 0, 3), 1);
    }

    private static void numbersStay() {
        // the carts behind the one left out keep their places among carts of one cost: 1 before 2
        PloughField x = new PloughField();
        x.cart(0, 5, 999, 9, 100);
        x.cart(0, 5, 999, 11, 100);
        x.cart(0, 5, 999, 18, 100);
        x.work(0, 10, 0);
        x.work(0, 10, 0);
        x.work(0, 63, 0);
        x.pass(1);
        Check.due("cart 0 takes work 0", x.job(0, 4), 0);
        Check.due("cart 1 takes work 1", x.job(1, 4), 1);
        Check.due("cart 2 goes to 63 from 18", x.cell(19, 2), 5);
        // without cart 0 carts 1 and 2 take works 0 and 1, and nobody goes to 63
        Check.due("without cart 0: pressed twice", x.again(1, 0, 10, 2), 10);
        Check.due("without cart 0: nobody is on 19", x.again(1, 0, 19, 2), 0);
        // without work 0 the others are taken on in their order
        Check.due("without work 0: pressed once", x.again(2, 0, 10, 2), 5);
        Check.due("without work 0: cart 1 goes to 63", x.again(2, 0, 12, 2), 5);
        Check.due("without work 0: cart 2 stays", x.again(2, 0, 19, 2), 0);
    }

    private static void whoIsNotThereHearsNothing() {
        // nobody hears of 1 when the one that sinks there isn't there
        PloughField x = new PloughField();
        x.cart(0, 1, 100, 0, 100);
        x.cart(1, 1, 999, 2, 100);
        x.land(1, 0, 300);
        x.land(9, 0, 600);
        x.work(0, 1, 0);
        x.pass(1);
        x.work(1, 0, 0);
        x.pass(1);
        Check.due("live it goes around", x.cell(10, 2), 1);
        Check.due("again it goes through", x.again(1, 0, 1, 2), 3);
        Check.due("and not around", x.again(1, 0, 10, 2), 0);
    }

    private static void whoIsNotThereIsNotPulled() {
        // with cart 0 gone the puller frees cart 1, the least that is stuck then
        PloughField x = new PloughField();
        x.cart(0, 1, 100, 0, 100);
        x.cart(0, 1, 100, 2, 100);
        x.cart(3, 1, 999, 9, 100);
        x.land(1, 0, 300);
        x.set(3, 0);
        x.work(0, 1, 0);
        x.work(0, 1, 0);
        x.pass(1);
        Check.due("both are stuck", x.count(15), 2);
        x.work(3, 1, 0);
        x.pass(1);
        Check.due("cart 0 is freed", x.told(0, 3), 0);
        Check.due("cart 1 is not", x.told(1, 3), 4);
        x.work(0, 17, 0);
        x.pass(1);
        Check.due("live cart 0 comes to 17", x.cell(17, 2), 1);
        Check.due("again cart 1 does", x.again(1, 0, 17, 2), 1);
        Check.due("without cart 1 cart 0 does", x.again(1, 1, 17, 2), 1);
        Check.due("without the puller nobody does", x.again(1, 2, 17, 2), 0);
    }

    private static void whoIsNotThereIsNotCharged() {
        PloughField x = new PloughField();
        x.cart(0, 1, 999, 0, 10);
        x.work(0, 63, 0);
        x.pass(11);
        Check.due("charge", x.charge(0), true);
        x.pass(9);
        Check.due("live it comes", x.cell(63, 2), 1);
        for (int cell = 0; cell < 64; cell++) {
            Check.due("again nothing is pressed on " + cell, x.again(1, 0, cell, 2), 0);
        }
    }

    private static void chargedIfFlatThen() {
        // without work 0 the cart has 7 left when it is charged: no more than that
        PloughField x = new PloughField();
        x.cart(0, 1, 999, 0, 10);
        x.work(0, 63, 0);
        x.work(0, 3, 0);
        x.pass(11);
        Check.due("flat", x.told(0, 3), 5);
        x.charge(0);
        x.work(0, 63, 0);
        x.pass(12);
        Check.due("live it comes", x.cell(63, 2), 1);
        Check.due("again it doesn't", x.again(2, 0, 63, 2), 0);
        int pressed = 0;
        for (int cell = 0; cell < 64; cell++) {
            pressed += x.again(2, 0, cell, 2);
        }
        Check.due("again it moves by 3 and 7 alone", pressed, 10);
    }

    private static void plantedWhereOneStands() {
        PloughField x = new PloughField();
        x.kind(true, 1, 80, 50, 50, 50);
        x.kind(false, 1, 20, 50, 50, 50);
        x.plant(0);
        x.look(0, 1);
        x.cart(1, 1, 999, 0, 100);
        x.work(1, 0, 0);
        x.pass(24);
        Check.due("live it's bare", x.cell(0, 3), 0);
        x.kind(true, 2, 50, 50, 50, 50);
        x.plant(0);
        Check.due("live: half and a quarter", x.cell(0, 9), 75);
        Check.due("live: seen", x.cell(0, 6), 0);
        Check.due("again: the old one", x.again(2, 0, 0, 9), 80);
        Check.due("again: seen", x.again(2, 0, 0, 6), 1);
        Check.due("again: size", x.again(2, 0, 0, 4), 1);
    }

    /** A plant on 0 that stands live, but not when work 0 isn't there: work 1 takes it then. */
    private static PloughField taken() {
        PloughField x = new PloughField();
        x.kind(true, 1, 80, 50, 50, 50);
        x.plant(0);
        x.cart(1, 1, 999, 0, 100);
        x.work(1, 63, 0);
        x.work(1, 0, 0);
        x.pass(1);
        Check.due("live it stands", x.cell(0, 3), 1);
        Check.due("again it doesn't", x.again(2, 0, 0, 10), 2);
        return x;
    }

    private static void seenWithoutAPlant() {
        PloughField x = taken();
        Check.due("seen", x.look(0, 1), true);
        Check.due("live", x.cell(0, 6), 1);
        Check.due("again", x.again(2, 0, 0, 6), 0);
        Check.due("again: bare as it was", x.again(2, 0, 0, 10), 2);
    }

    private static void illWithoutAPlant() {
        PloughField x = taken();
        x.lot(0);
        x.plant(1);
        Check.due("ill", x.ill(0, true), true);
        Check.due("again", x.again(2, 0, 0, 5), 0);
        x.pass(23);
        Check.due("live it spreads", x.cell(1, 5), 1);
        Check.due("again it doesn't", x.again(2, 0, 1, 5), 0);
        PloughField y = taken();
        y.ill(0, true);
        y.ill(0, false);
        Check.due("no more", y.again(2, 0, 0, 5), 0);
    }

    private static void illAsItIs() {
        // live the ill one is taken before it spreads; without that work 1 is ill when it's told to be
        PloughField x = new PloughField();
        x.kind(true, 1, 80, 50, 50, 50);
        x.plant(0);
        x.plant(1);
        x.ill(0, true);
        x.lot(0);
        x.cart(1, 1, 999, 0, 100);
        x.work(1, 0, 0);
        x.pass(24);
        Check.due("live it isn't ill", x.cell(1, 5), 0);
        Check.due("again it is", x.again(2, 0, 1, 5), 1);
        Check.due("told", x.ill(1, true), true);
        Check.due("again it stays so", x.again(2, 0, 1, 5), 1);
        Check.due("told", x.ill(1, false), true);
        Check.due("again no more", x.again(2, 0, 1, 5), 0);
        Check.due("the other is ill still", x.again(2, 0, 0, 5), 1);
    }

    private static void plansArePlayedAsWorks() {
        // what was planned by the wet of then stays planned, though it's dry again without the rain
        PloughField x = new PloughField();
        x.kind(true, 1, 80, 50, 50, 50);
        x.plant(0);
        x.rain(1, 1, 99);
        x.cart(2, 1, 999, 0, 100);
        x.pass(1);
        Check.rules(x, "give wet;");
        Check.due("plan", x.plan(0), 0);
        Check.due("98", x.job(0, 2), 98);
        x.pass(1);
        Check.due("live it got 98", x.cell(0, 7), 98);
        Check.due("again it got 98", x.again(0, 0, 0, 7), 98);
        Check.due("without the work nothing", x.again(2, 0, 0, 7), 0);
        Check.due("without the cart nothing", x.again(1, 0, 0, 7), 0);
    }

    private static void settingsAtTheirHour() {
        // 9 is too heavy for LIMIT 8 until hour 3
        PloughField x = new PloughField();
        x.rain(10, 10, 1);
        x.set(0, 8);
        x.cart(0, 9, 999, 0, 100);
        x.work(0, 7, 0);
        x.pass(3);
        x.set(0, 9);
        x.pass(2);
        Check.due("live on 2", x.told(0, 1), 2);
        Check.due("again on 1", x.again(0, 0, 1, 2), 9);
        Check.due("again on 2", x.again(0, 0, 2, 2), 9);
        Check.due("again not on 3", x.again(0, 0, 3, 2), 0);
    }

    private static void toldAfterTheHourHasPassed() {
        // each call is played behind its hour, in its order
        PloughField x = new PloughField();
        x.rain(9, 9, 1);
        x.pass(1);
        x.land(0, 1, 300);
        x.land(0, 0, 300);
        x.land(1, 5, 0);
        x.pass(1);
        Check.due("live", x.cell(0, 1), 299);
        Check.due("again", x.again(0, 0, 0, 1), 299);
        x.land(0, 6, 300);
        Check.due("told now", x.again(0, 0, 0, 1), 300);
        x.pass(1);
        Check.due("it flows to 8", x.again(0, 0, 8, 1), 99);
        Check.due("as live", x.cell(8, 1), 99);
    }

    private static void heightsAre0BeforeTheyAreTold() {
        // wet flows from 20 only once its height is told, in every playing
        PloughField x = new PloughField();
        x.rain(1, 5, 99);
        x.rain(9, 9, 1);
        x.rain(9, 9, 1);
        x.pass(10);
        x.land(20, 9, 0);
        x.pass(1);
        Check.due("live", x.cell(12, 1), 486);
        for (int i = 0; i < 6; i++) {
            Check.due("without a rain of 1", x.again(0, 1 + i % 2, 12, 1), 485);
            Check.due("the height", x.again(0, 1 + i % 2, 20, 0), 9);
        }
    }

    private static void askedInTurn() {
        PloughField x = NothingTest.busy().make();
        int[][] asked = {{0, 0}, {0, 1}, {1, 0}, {1, 5}, {2, 0}, {2, 5}};
        int[][] first = new int[asked.length][11];
        for (int round = 0; round < 3; round++) {
            for (int i = 0; i < asked.length; i++) {
                for (int what = 0; what <= 10; what++) {
                    int answer = x.again(asked[i][0], asked[i][1], 18, what);
                    if (round == 0) {
                        first[i][what] = answer;
                    }
                    Check.due("in turn " + asked[i][0] + " " + asked[i][1] + " " + what, answer, first[i][what]);
                }
            }
        }
        PloughField y = NothingTest.busy().make();
        for (int i = asked.length - 1; i >= 0; i--) {
            for (int what = 10; what >= 0; what--) {
                Check.due("the other way round", y.again(asked[i][0], asked[i][1], 18, what), first[i][what]);
            }
        }
    }
}
