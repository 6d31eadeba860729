/**
 * The limits of all that is told, promises 2 to 13, and of strips: for each number of each call the last value
 * that is taken and the first that is refused, on either side, and what the last ones do.
 */
public final class EdgeToldTest {
    interface Maker {
        PloughField make();
    }

    interface Taken {
        boolean by(PloughField x, int value);
    }

    public static void main(String[] args) {
        sidesOfLandAndSet();
        sidesOfRain();
        sidesOfCart();
        sidesOfCharge();
        sidesOfWork();
        sidesOfLotAndKind();
        sidesOfPlants();
        sidesOfStrips();
        landTakesItsCornersAsTold();
        landIsToldAnew();
        limitAtFirst();
        bearsAtFirst();
        limitLeast();
        limitMost();
        bearsLeast();
        bearsMost();
        oddsAtFirstLeastAndMost();
        reachAtFirstLeastAndMost();
        rainOfOneHour();
        rainInTheLastHour();
        cartIsNewAtItsHome();
        weightLeastAndMost();
        sinkLeast();
        sinkMost();
        fullLeastAndMost();
        eachKindOfCartDoesItsWork();
        giveLeastAndMost();
        numbersGoUp();
        Check.end();
    }

    /** The values from least to most are taken, those beyond are not; what is not taken is not told. */
    private static void sides(String name, Maker maker, int least, int most, Taken taken) {
        int[] values = {least, most, least + (most - least) / 2, least - 1, most + 1, Integer.MIN_VALUE, Integer.MAX_VALUE};
        for (int i = 0; i < values.length; i++) {
            PloughField x = maker.make();
            int told = x.count(1) + x.count(11);
            boolean due = i < 3;
            Check.due(name + " " + values[i], taken.by(x, values[i]), due);
            Check.due(name + " " + values[i] + " is told", x.count(1) + x.count(11) - told, due ? 1 : 0);
        }
    }

    private static void sidesOfLandAndSet() {
        sides("land's cell", PloughField::new, 0, 63, (x, v) -> x.land(v, 5, 5));
        sides("land's height", PloughField::new, 0, 99, (x, v) -> x.land(5, v, 5));
        sides("land's wet", PloughField::new, 0, 999, (x, v) -> x.land(5, 5, v));
        sides("what is set", PloughField::new, 0, 3, (x, v) -> x.set(v, 5));
        sides("LIMIT", PloughField::new, 1, 9999, (x, v) -> x.set(0, v));
        sides("BEARS", PloughField::new, 1, 9999, (x, v) -> x.set(1, v));
        sides("ODDS", PloughField::new, 0, 100, (x, v) -> x.set(2, v));
        sides("REACH", PloughField::new, 0, 14, (x, v) -> x.set(3, v));
    }

    private static PloughField at(int hour) {
        PloughField x = new PloughField();
        for (int left = hour; left > 0; left -= 200) {
            x.pass(Math.min(left, 200));
        }
        return x;
    }

    private static void sidesOfRain() {
        sides("rain from, at hour 0", PloughField::new, 1, 719, (x, v) -> x.rain(v, 719, 5) >= 0);
        sides("rain from, at hour 100", () -> at(100), 101, 719, (x, v) -> x.rain(v, 719, 5) >= 0);
        sides("rain from, at hour 718", () -> at(718), 719, 719, (x, v) -> x.rain(v, 719, 5) >= 0);
        sides("rain from, to hour 300", PloughField::new, 1, 300, (x, v) -> x.rain(v, 300, 5) >= 0);
        sides("rain to", PloughField::new, 10, 719, (x, v) -> x.rain(10, v, 5) >= 0);
        sides("rain's much", PloughField::new, 1, 99, (x, v) -> x.rain(10, 20, v) >= 0);
        Check.due("no rain in the last hour", at(719).rain(719, 719, 5), -1);
        Check.due("nor behind it", at(719).rain(720, 720, 5), -1);
    }

    private static void sidesOfCart() {
        sides("cart's kind", PloughField::new, 0, 3, (x, v) -> x.cart(v, 5, 500, 5, 50) >= 0);
        sides("cart's weight", PloughField::new, 1, 50, (x, v) -> x.cart(0, v, 500, 5, 50) >= 0);
        sides("cart's sink", PloughField::new, 50, 999, (x, v) -> x.cart(0, 5, v, 5, 50) >= 0);
        sides("cart's home", PloughField::new, 0, 63, (x, v) -> x.cart(0, 5, 500, v, 50) >= 0);
        sides("cart's full", PloughField::new, 10, 500, (x, v) -> x.cart(0, 5, 500, 5, v) >= 0);
    }

    /** So many carts, all of them flat on their way. */
    private static PloughField flatCarts(int many) {
        PloughField x = new PloughField();
        for (int i = 0; i < many; i++) {
            x.cart(0, 1, 999, 0, 10);
            x.work(0, 63, 0);
        }
        x.pass(11);
        return x;
    }

    private static void sidesOfCharge() {
        sides("charge of one", () -> flatCarts(1), 0, 0, (x, v) -> x.charge(v));
        sides("charge of eight", () -> flatCarts(8), 0, 7, (x, v) -> x.charge(v));
    }

    private static void sidesOfWork() {
        sides("work's kind", PloughField::new, 0, 3, (x, v) -> x.work(v, 5, v == 2 ? 5 : 0) >= 0);
        for (int kind = 0; kind <= 3; kind++) {
            int k = kind;
            sides("work's cell, kind " + kind, PloughField::new, 0, 63, (x, v) -> x.work(k, v, k == 2 ? 5 : 0) >= 0);
            sides("work's much, kind " + kind, PloughField::new, k == 2 ? 1 : 0, k == 2 ? 999 : 0,
                    (x, v) -> x.work(k, 5, v) >= 0);
        }
    }

    private static void sidesOfLotAndKind() {
        sides("lot", PloughField::new, 0, 99, (x, v) -> x.lot(v) >= 0);
        sides("kind's prior", PloughField::new, 1, 100, (x, v) -> x.kind(true, v, 5, 5, 5, 5) >= 0);
        sides("kind's first mark", PloughField::new, 1, 99, (x, v) -> x.kind(true, 5, v, 5, 5, 5) >= 0);
        sides("kind's second mark", PloughField::new, 1, 99, (x, v) -> x.kind(true, 5, 5, v, 5, 5) >= 0);
        sides("kind's third mark", PloughField::new, 1, 99, (x, v) -> x.kind(false, 5, 5, 5, v, 5) >= 0);
        sides("kind's fourth mark", PloughField::new, 1, 99, (x, v) -> x.kind(false, 5, 5, 5, 5, v) >= 0);
    }

    private static PloughField withKind() {
        PloughField x = new PloughField();
        x.kind(true, 5, 50, 50, 50, 50);
        return x;
    }

    private static PloughField withPlants() {
        PloughField x = withKind();
        for (int cell = 0; cell < 64; cell++) {
            x.plant(cell);
        }
        return x;
    }

    private static PloughField withIllPlants() {
        PloughField x = withPlants();
        for (int cell = 0; cell < 64; cell++) {
            x.ill(cell, true);
        }
        return x;
    }

    private static void sidesOfPlants() {
        sides("plant", EdgeToldTest::withKind, 0, 63, (x, v) -> x.plant(v));
        sides("show's cell", PloughField::new, 0, 63, (x, v) -> x.show(v, 5));
        sides("show's marks", PloughField::new, 0, 15, (x, v) -> x.show(5, v));
        sides("look's cell", EdgeToldTest::withPlants, 0, 63, (x, v) -> x.look(v, 5));
        sides("look's marks", EdgeToldTest::withPlants, 0, 15, (x, v) -> x.look(5, v));
        sides("ill", EdgeToldTest::withPlants, 0, 63, (x, v) -> x.ill(v, true));
        sides("ill no more", EdgeToldTest::withIllPlants, 0, 63, (x, v) -> x.ill(v, false));
    }

    private static void sidesOfStrips() {
        sides("strip's arm", PloughField::new, 0, 1, (x, v) -> x.strip(v, 5) >= 0);
        sides("strip's crop", PloughField::new, 0, 9999, (x, v) -> x.strip(0, v) >= 0);
    }

    private static void landTakesItsCornersAsTold() {
        PloughField x = new PloughField();
        int[] cells = {0, 7, 56, 63};
        for (int cell : cells) {
            x.land(cell, 99, 999);
        }
        for (int cell = 0; cell < 64; cell++) {
            boolean isCorner = cell == 0 || cell == 7 || cell == 56 || cell == 63;
            Check.due("height of " + cell, x.cell(cell, 0), isCorner ? 99 : 0);
            Check.due("wet of " + cell, x.cell(cell, 1), isCorner ? 999 : 0);
        }
        Check.due("all wet", x.water(0), 4 * 999);
    }

    private static void landIsToldAnew() {
        PloughField x = new PloughField();
        x.land(63, 99, 999);
        x.land(63, 0, 0);
        Check.due("height 0", x.cell(63, 0), 0);
        Check.due("wet 0", x.cell(63, 1), 0);
        Check.due("no wet at all", x.water(0), 0);
    }

    /** A cart of this weight on 0 and its way to 1, which has this wet. */
    private static int costToOne(PloughField x, int weight, int wet) {
        x.land(1, 0, wet);
        int cart = x.cart(0, weight, 999, 0, 100);
        return x.way(cart, 1, 0);
    }

    private static void limitAtFirst() {
        Check.due("LIMIT 500 is entered", costToOne(new PloughField(), 50, 999), 500);
        PloughField x = new PloughField();
        x.cart(0, 1, 999, 0, 100);
        x.work(0, 1, 0);
        x.pass(2);
        Check.due("LIMIT 500 and one more isn't", costToOne(x, 50, 999), -1);
        Check.due("one less is", costToOne(x, 49, 999), 490);
    }

    /** Why 1 is bare after a cart of 50 with 150 below it and one of this weight went over it. */
    private static int pressed(int weight) {
        PloughField x = withPlants();
        x.land(1, 0, 201);
        x.cart(0, 50, 999, 0, 100);
        x.work(0, 1, 0);
        x.pass(1);
        x.land(1, 0, 0);
        x.cart(1, weight, 999, 2, 100);
        x.work(1, 1, 0);
        x.pass(1);
        Check.due("press", x.cell(1, 2), 150 + weight);
        return x.cell(1, 10);
    }

    private static void bearsAtFirst() {
        Check.due("BEARS 200 is borne", pressed(50), 0);
        PloughField x = withPlants();
        x.cart(0, 1, 999, 0, 100);
        x.work(0, 1, 0);
        x.pass(1);
        x.land(1, 0, 301);
        x.cart(1, 50, 999, 2, 100);
        x.work(1, 1, 0);
        x.pass(1);
        Check.due("press", x.cell(1, 2), 201);
        Check.due("BEARS 200 and one more isn't", x.cell(1, 10), 3);
    }

    private static void limitLeast() {
        PloughField x = new PloughField();
        x.set(0, 1);
        Check.due("1 is entered", costToOne(x, 1, 99), 1);
        Check.due("2 isn't", costToOne(x, 2, 0), -1);
        Check.due("1 on 100 wet isn't", costToOne(x, 1, 100), -1);
        Check.due("there already", x.way(0, 0, 0), 0);
    }

    /** At hour 11 every cell has 30,239 wet: 33 weighs 9,999 there. */
    private static PloughField drenched() {
        PloughField x = new PloughField();
        for (int i = 0; i < 27; i++) {
            x.rain(1, 11, 99);
        }
        x.rain(1, 11, 77);
        x.pass(11);
        Check.due("wet", x.cell(1, 1), 30239);
        return x;
    }

    private static void limitMost() {
        PloughField x = drenched();
        x.set(0, 9999);
        x.cart(0, 33, 999, 0, 100);
        x.cart(0, 34, 999, 0, 100);
        Check.due("9,999 are entered", x.way(0, 1, 0), 9999);
        Check.due("10,302 aren't", x.way(1, 1, 0), -1);
        Check.due("three cells", x.way(0, 3, 0), 29997);
        x.set(0, 9998);
        Check.due("9,998: no more", x.way(0, 1, 0), -1);
    }

    private static void bearsLeast() {
        PloughField x = withPlants();
        x.set(1, 1);
        x.cart(0, 1, 999, 0, 100);
        x.cart(1, 2, 999, 63, 100);
        x.work(0, 1, 0);
        x.work(1, 55, 0);
        x.pass(1);
        Check.due("1 is borne", x.cell(1, 10), 0);
        Check.due("2 isn't", x.cell(55, 10), 3);
        Check.due("where a cart begins nothing is pressed", x.cell(0, 2), 0);
    }

    private static void bearsMost() {
        PloughField x = drenched();
        x.kind(true, 1, 50, 50, 50, 50);
        x.plant(1);
        x.set(0, 9999);
        x.set(1, 9999);
        x.cart(0, 33, 999, 0, 100);
        x.work(0, 1, 0);
        x.pass(1);
        Check.due("9,999 are on it", x.cell(1, 2), 9999);
        Check.due("it's borne", x.cell(1, 10), 0);
        Check.due("the cart is stuck there", x.told(0, 3), 4);
        x.land(1, 0, 0);
        x.cart(0, 1, 999, 2, 100);
        Check.due("10,000 are entered by nobody", x.way(1, 1, 0), -1);
        PloughField y = drenched();
        y.kind(true, 1, 50, 50, 50, 50);
        y.plant(1);
        y.set(0, 9999);
        y.set(1, 9998);
        y.cart(0, 33, 999, 0, 100);
        y.work(0, 1, 0);
        y.pass(1);
        Check.due("9,999 are above 9,998", y.cell(1, 10), 3);
    }

    /** Whether 1, beside an ill plant, falls ill by this lot; odds -1: as at first. */
    private static int fallsIll(int odds, int lot) {
        PloughField x = withKind();
        x.plant(0);
        x.plant(1);
        x.ill(0, true);
        x.lot(lot);
        if (odds >= 0) {
            x.set(2, odds);
        }
        x.pass(24);
        return x.cell(1, 5);
    }

    private static void oddsAtFirstLeastAndMost() {
        Check.due("30 at first: 29", fallsIll(-1, 29), 1);
        Check.due("30 at first: 30", fallsIll(-1, 30), 0);
        Check.due("0: 0", fallsIll(0, 0), 0);
        Check.due("1: 0", fallsIll(1, 0), 1);
        Check.due("1: 1", fallsIll(1, 1), 0);
        Check.due("99: 98", fallsIll(99, 98), 1);
        Check.due("99: 99", fallsIll(99, 99), 0);
        Check.due("100: 99", fallsIll(100, 99), 1);
    }

    /** Whether a cart on this cell hears of 63, where one sinks; reach -1: as at first. */
    private static int hears(int reach, int cell) {
        PloughField x = new PloughField();
        if (reach >= 0) {
            x.set(3, reach);
        }
        x.land(63, 0, 300);
        x.cart(0, 1, 50, 62, 100);
        x.cart(1, 1, 999, cell, 100);
        x.work(0, 63, 0);
        x.pass(1);
        Check.due("stuck", x.told(0, 3), 4);
        Check.due("it heard itself", x.told(0, 163), 1);
        Check.due("the map and its count are one", x.told(1, 5), x.told(1, 163));
        return x.told(1, 163);
    }

    private static void reachAtFirstLeastAndMost() {
        Check.due("3 at first: 3 across", hears(-1, 60), 1);
        Check.due("3 at first: 2 and 1", hears(-1, 53), 1);
        Check.due("3 at first: 4 across", hears(-1, 59), 0);
        Check.due("3 at first: 2 and 2", hears(-1, 45), 0);
        Check.due("0: the same cell", hears(0, 63), 1);
        Check.due("0: beside it", hears(0, 55), 0);
        Check.due("1: beside it", hears(1, 55), 1);
        Check.due("1: 1 and 1", hears(1, 54), 0);
        Check.due("13: the far corner", hears(13, 0), 0);
        Check.due("13: beside the far corner", hears(13, 8), 1);
        Check.due("14: the far corner", hears(14, 0), 1);
    }

    private static void rainOfOneHour() {
        PloughField x = new PloughField();
        x.rain(1, 1, 1);
        x.rain(2, 2, 99);
        x.pass(1);
        Check.due("1 fell, 1 was lost", x.water(0), 0);
        Check.due("fallen", x.water(1), 64);
        x.pass(1);
        Check.due("99 fell, 1 was lost", x.cell(0, 1), 98);
        x.pass(1);
        Check.due("no more", x.cell(63, 1), 97);
        Check.due("fallen", x.water(1), 6400);
    }

    private static void rainInTheLastHour() {
        PloughField x = at(718);
        Check.due("rain", x.rain(719, 719, 99), 0);
        x.pass(1);
        Check.due("it fell", x.water(1), 64 * 99);
        PloughField y = new PloughField();
        y.rain(1, 719, 2);
        for (int i = 0; i < 3; i++) {
            y.pass(200);
        }
        y.pass(119);
        Check.due("in each hour", y.water(1), 719L * 64 * 2);
        Check.due("one of two is lost", y.water(0), 719L * 64);
        Check.due("and the other", y.water(2), 719L * 64);
    }

    private static void cartIsNewAtItsHome() {
        PloughField x = at(30);
        Check.due("cart", x.cart(3, 50, 999, 63, 500), 0);
        int[] want = {3, 63, 500, 0, -1, 0};
        for (int what = 0; what < want.length; what++) {
            Check.due("fact " + what, x.told(0, what), want[what]);
        }
        for (int cell = 0; cell < 64; cell++) {
            Check.due("not heard of " + cell, x.told(0, 100 + cell), 0);
        }
        Check.due("home isn't pressed", x.cell(63, 2), 0);
    }

    private static void weightLeastAndMost() {
        int[] wet = {0, 99, 100, 199, 200, 999};
        int[] times = {1, 1, 2, 2, 3, 10};
        for (int i = 0; i < wet.length; i++) {
            Check.due("1 on " + wet[i], costToOne(new PloughField(), 1, wet[i]), times[i]);
            Check.due("50 on " + wet[i], costToOne(new PloughField(), 50, wet[i]), 50 * times[i]);
        }
    }

    /** What a cart that sinks above this does on 1, which has this wet when it comes. */
    private static int onWet(int sink, int wet) {
        PloughField x = new PloughField();
        x.land(1, 0, Math.min(999, wet + 1));
        if (wet + 1 > 999) {
            x.rain(1, 1, wet + 1 - 999);
        }
        x.cart(0, 1, sink, 0, 100);
        x.work(0, 1, 0);
        x.pass(1);
        Check.due("wet", x.cell(1, 1), wet);
        Check.due("it's there", x.told(0, 1), 1);
        Check.due("stuck or its work is taken on", x.job(0, 3), x.told(0, 3) == 4 ? 0 : 1);
        return x.told(0, 3);
    }

    private static void sinkLeast() {
        Check.due("50 on 50 goes", onWet(50, 50), 1);
        Check.due("50 on 51 is stuck", onWet(50, 51), 4);
    }

    private static void sinkMost() {
        Check.due("999 on 999 goes", onWet(999, 999), 1);
        Check.due("999 on 1,000 is stuck", onWet(999, 1000), 4);
    }

    private static void fullLeastAndMost() {
        PloughField x = new PloughField();
        x.cart(0, 1, 999, 0, 10);
        x.cart(1, 1, 999, 0, 500);
        x.work(0, 63, 0);
        x.work(1, 63, 0);
        x.pass(10);
        Check.due("10 are used up", x.told(0, 2), 0);
        Check.due("10 of 500 are used up", x.told(1, 2), 490);
        x.pass(1);
        Check.due("flat", x.told(0, 3), 5);
        Check.due("it goes on", x.told(1, 3), 1);
        x.charge(0);
        Check.due("10 again", x.told(0, 2), 10);
    }

    private static void eachKindOfCartDoesItsWork() {
        for (int kind = 0; kind <= 3; kind++) {
            PloughField x = new PloughField();
            for (int work = 0; work <= 3; work++) {
                x.work(work, 9, work == 2 ? 1 : 0);
            }
            x.cart(kind, 1, 999, 8, 100);
            x.pass(1);
            for (int work = 0; work <= 3; work++) {
                int due = work != kind ? 0 : kind == 3 ? 2 : 1;
                Check.due("cart " + kind + " and work " + work, x.job(work, 3), due);
            }
        }
    }

    private static void giveLeastAndMost() {
        PloughField x = withPlants();
        x.cart(2, 1, 999, 9, 100);
        x.work(2, 9, 1);
        x.work(2, 9, 999);
        x.pass(1);
        Check.due("1", x.cell(9, 7), 1);
        x.pass(1);
        Check.due("and 999", x.cell(9, 7), 1000);
        Check.due("of all plants", x.count(16), 1000);
    }

    private static void numbersGoUp() {
        PloughField x = withKind();
        for (int i = 0; i < 3; i++) {
            Check.due("rain", x.rain(5, 6, 7), i);
            Check.due("cart", x.cart(0, 5, 500, 5, 50), i);
            Check.due("work", x.work(0, 5, 0), i);
            Check.due("lot", x.lot(5), i + 1);
            Check.due("kind", x.kind(true, 5, 5, 5, 5, 5), i + 1);
            Check.due("strip", x.strip(0, 5), i);
            Check.due("refused", x.rain(0, 6, 7), -1);
            Check.due("refused", x.cart(0, 5, 500, 64, 50), -1);
            Check.due("refused", x.work(0, 64, 0), -1);
            Check.due("refused", x.lot(100), -1);
            Check.due("refused", x.kind(true, 0, 5, 5, 5, 5), -1);
            Check.due("refused", x.strip(2, 5), -1);
        }
    }
}
