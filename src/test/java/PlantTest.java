/** Promises 10 to 13, 15 and 16, and the end of a day: plants, shares, illness by lots, size, why a cell is bare. */
public final class PlantTest {
    public static void main(String[] args) {
        promise15Cell();
        promise16Share();
        sharesAreCut();
        marksAreBits();
        weedsTogether();
        drowned();
        grown();
        lotsInTurn();
        lotsToldLater();
        allLotsAreTaken();
        spreadFromTheBeginning();
        drownedOnesDoNotSpread();
        oddsEdges();
        spreadAtTheEdges();
        fiveKinds();
        plantedAnew();
        Check.end();
    }

    private static PloughField withKind() {
        PloughField x = new PloughField();
        x.kind(true, 1, 80, 50, 50, 50);
        return x;
    }

    private static void promise15Cell() {
        PloughField x = withKind();
        x.land(9, 7, 60);
        x.show(9, 5);
        int[] bare = {7, 60, 0, 0, 0, 0, 0, 0, 5, 0, 1};
        for (int what = 0; what <= 10; what++) {
            Check.due("bare " + what, x.cell(9, what), bare[what]);
        }
        x.plant(9);
        x.ill(9, true);
        x.look(9, 1);
        x.look(9, 0);
        int[] grows = {7, 60, 0, 1, 0, 1, 2, 0, 5, 100, 0};
        for (int what = 0; what <= 10; what++) {
            Check.due("grows " + what, x.cell(9, what), grows[what]);
        }
        int[] none = {-1, 11, Integer.MIN_VALUE, Integer.MAX_VALUE};
        for (int what : none) {
            Check.due("none such " + what, x.cell(9, what), -1);
        }
        Check.due("none such", x.cell(-1, 0), -1);
        Check.due("none such", x.cell(64, 0), -1);
    }

    private static void promise16Share() {
        PloughField x = withKind();
        x.kind(false, 2, 20, 50, 50, 50);
        x.plant(0);
        x.kind(false, 97, 10, 10, 10, 10);
        x.plant(1);
        Check.due("a third, cut", x.share(0, 0), 333333333);
        Check.due("two thirds, cut", x.share(0, 1), 666666666);
        Check.due("told later", x.share(0, 2), 0);
        Check.due("a hundredth", x.share(1, 0), 10000000);
        Check.due("97 hundredths", x.share(1, 2), 970000000);
        Check.due("no such kind", x.share(0, 3), -1);
        Check.due("no such kind", x.share(0, -1), -1);
        Check.due("no plant", x.share(2, 0), -1);
        Check.due("no such cell", x.share(64, 0), -1);
        Check.due("no such cell", x.share(-1, 0), -1);
        x.look(0, 15);
        Check.due("later ones stay 0", x.share(0, 2), 0);
        Check.due("hundredths of weeds", x.cell(1, 9), 1);
    }

    private static void sharesAreCut() {
        // 333333333 * 33 / 100 = 109999999, * 77 / 100 = 84699999, * 51 / 100 = 43196999, * 99 / 100 = 42765029
        // 666666666 * 41 / 100 = 273333333, * 7 / 100 = 19133333, * 88 / 100 = 16837333, * 35 / 100 = 5893066
        PloughField x = new PloughField();
        x.kind(true, 1, 33, 77, 49, 1);
        x.kind(false, 2, 41, 7, 12, 65);
        x.plant(0);
        x.look(0, 3);
        Check.due("share 0", x.share(0, 0), 42765029L * 1000000000L / (42765029L + 5893066L));
        Check.due("share 1", x.share(0, 1), 5893066L * 1000000000L / (42765029L + 5893066L));
    }

    private static void marksAreBits() {
        for (int mark = 0; mark < 4; mark++) {
            PloughField x = new PloughField();
            int[] odds = {50, 50, 50, 50};
            odds[mark] = 90;
            x.kind(true, 1, odds[0], odds[1], odds[2], odds[3]);
            x.kind(false, 1, 50, 50, 50, 50);
            x.plant(0);
            x.look(0, 1 << mark);
            Check.due("mark " + mark + " there", x.cell(0, 9), 64);
            x.plant(1);
            x.look(1, 15 - (1 << mark));
            Check.due("mark " + mark + " not there", x.cell(1, 9), 16);
        }
    }

    private static void weedsTogether() {
        // 1 of 7 is 142857142: three weeds together are 428571426
        PloughField x = new PloughField();
        for (int i = 0; i < 3; i++) {
            x.kind(true, 1, 50, 50, 50, 50);
        }
        x.kind(false, 4, 50, 50, 50, 50);
        x.plant(0);
        Check.due("hundredths of all weeds", x.cell(0, 9), 42);
        // 33 and 66.99 hundredths: cut once, of both together
        PloughField y = new PloughField();
        y.kind(true, 1, 50, 50, 50, 50);
        y.kind(true, 1, 50, 50, 50, 50);
        y.kind(false, 1, 50, 50, 50, 50);
        y.plant(0);
        Check.due("cut once", y.cell(0, 9), 66);
    }

    private static void drowned() {
        PloughField x = withKind();
        x.plant(0);
        x.plant(63);
        x.land(0, 0, 625);
        x.land(63, 0, 624);
        x.ill(0, true);
        x.pass(23);
        Check.due("wet in the day does nothing", x.cell(0, 3), 1);
        x.pass(1);
        Check.due("601 at the end of the day", x.cell(0, 1), 601);
        Check.due("drowned", x.cell(0, 10), 4);
        Check.due("600 isn't above 600", x.cell(63, 10), 0);
        Check.due("not ill any more", x.cell(0, 5), 0);
        Check.due("ill ones", x.count(10), 0);
        Check.due("plants", x.count(9), 1);
    }

    private static void grown() {
        PloughField x = withKind();
        int[] wet = {73, 74, 324, 325};
        int[] want = {1, 2, 2, 1};
        for (int i = 0; i < 4; i++) {
            x.land(i, 0, wet[i]);
            x.plant(i);
        }
        x.pass(24);
        for (int i = 0; i < 4; i++) {
            Check.due("wet " + (wet[i] - 24), x.cell(i, 4), want[i]);
        }
        x.pass(24);
        Check.due("300 at the end of the second day", x.cell(3, 1), 277);
        Check.due("grows by 2", x.cell(3, 4), 3);
        Check.due("grows by 1", x.cell(1, 4), 3);
    }

    private static void lotsInTurn() {
        // 1 and 8 are beside 0, 10 is beside 9: lots go to 1, 8, 10 in this order
        PloughField x = withKind();
        for (int cell : new int[] {0, 1, 8, 18}) {
            x.plant(cell);
        }
        x.ill(0, true);
        x.lot(30);
        x.lot(29);
        x.lot(99);
        x.pass(24);
        Check.due("30 isn't below 30", x.cell(1, 5), 0);
        Check.due("29 is", x.cell(8, 5), 1);
        Check.due("18 is beside none", x.cell(18, 5), 0);
        x.pass(24);
        Check.due("99 for 1", x.cell(1, 5), 0);
        x.pass(24);
        Check.due("after the last the first", x.cell(1, 5), 0);
        x.pass(24);
        Check.due("then the second", x.cell(1, 5), 1);
        PloughField y = withKind();
        y.plant(0);
        y.plant(1);
        y.ill(0, true);
        y.pass(48);
        Check.due("nothing falls ill without lots", y.cell(1, 5), 0);
    }

    private static void lotsToldLater() {
        // the last of one lot is taken, so the first is next, though a second is told then
        PloughField x = withKind();
        x.plant(0);
        x.plant(1);
        x.ill(0, true);
        x.lot(99);
        x.pass(24);
        x.lot(0);
        x.pass(24);
        Check.due("the first was next", x.cell(1, 5), 0);
        x.pass(24);
        Check.due("then the second", x.cell(1, 5), 1);
    }

    private static void allLotsAreTaken() {
        // 9 has four ill ones beside it: it takes four lots, though the first makes it ill; 63 gets the fifth
        PloughField x = withKind();
        for (int cell : new int[] {1, 8, 9, 10, 17, 62, 63}) {
            x.plant(cell);
        }
        for (int cell : new int[] {1, 8, 10, 17, 62}) {
            x.ill(cell, true);
        }
        for (int lot : new int[] {0, 99, 99, 99, 0, 99}) {
            x.lot(lot);
        }
        x.pass(24);
        Check.due("ill by the first", x.cell(9, 5), 1);
        Check.due("ill by the fifth", x.cell(63, 5), 1);
    }

    private static void spreadFromTheBeginning() {
        PloughField x = withKind();
        x.plant(0);
        x.plant(1);
        x.plant(2);
        x.ill(0, true);
        x.lot(0);
        x.pass(24);
        Check.due("beside", x.cell(1, 5), 1);
        Check.due("two away: not on the same day", x.cell(2, 5), 0);
        x.pass(24);
        Check.due("on the next", x.cell(2, 5), 1);
    }

    private static void drownedOnesDoNotSpread() {
        PloughField x = withKind();
        x.plant(0);
        x.plant(1);
        x.ill(0, true);
        x.land(0, 0, 700);
        x.lot(0);
        x.pass(24);
        Check.due("drowned", x.cell(0, 10), 4);
        Check.due("not ill", x.cell(1, 5), 0);
    }

    private static void oddsEdges() {
        PloughField x = withKind();
        x.plant(0);
        x.plant(1);
        x.ill(0, true);
        x.lot(0);
        x.set(2, 0);
        x.pass(24);
        Check.due("odds 0", x.cell(1, 5), 0);
        PloughField y = withKind();
        y.plant(0);
        y.plant(1);
        y.ill(0, true);
        y.lot(99);
        y.set(2, 100);
        y.pass(24);
        Check.due("odds 100", y.cell(1, 5), 1);
    }

    private static void spreadAtTheEdges() {
        PloughField x = withKind();
        for (int cell : new int[] {0, 1, 7, 8, 16, 63}) {
            x.plant(cell);
        }
        x.ill(1, true);
        x.ill(63, true);
        x.lot(0);
        x.pass(24);
        Check.due("0 is beside 1", x.cell(0, 5), 1);
        Check.due("8 is beside none", x.cell(8, 5), 0);
        Check.due("7 is beside none", x.cell(7, 5), 0);
        Check.due("16 is beside none", x.cell(16, 5), 0);
    }

    private static void fiveKinds() {
        PloughField x = new PloughField();
        for (int i = 0; i < 5; i++) {
            x.kind(i == 4, 20, 50, 50, 50, 10 + 20 * i);
        }
        x.plant(0);
        Check.due("the fifth", x.share(0, 4), 200000000);
        x.look(0, 8);
        Check.due("weed", x.cell(0, 9), 36);
        Check.due("the fifth", x.share(0, 4), 360000000);
        Check.due("the first", x.share(0, 0), 40000000);
    }

    private static void plantedAnew() {
        PloughField x = withKind();
        x.plant(0);
        x.ill(0, true);
        x.look(0, 1);
        x.cart(2, 1, 999, 0, 100);
        x.cart(1, 1, 999, 0, 100);
        x.work(2, 0, 9);
        x.pass(24);
        x.work(1, 0, 0);
        x.pass(1);
        Check.due("taken", x.cell(0, 10), 2);
        x.plant(0);
        int[] want = {0, 0, 0, 1, 0, 0, 0, 0, 0, 100, 0};
        for (int what = 0; what <= 10; what++) {
            Check.due("anew " + what, x.cell(0, what), want[what]);
        }
    }
}
