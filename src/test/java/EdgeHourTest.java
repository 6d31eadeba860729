/** The edges of the hours: promise 14, part 2 of the document from (a) to (f), and promises 17 to 20. */
public final class EdgeHourTest {
    public static void main(String[] args) {
        passLeastAndMost();
        passToTheLastHour();
        daysEndAt24();
        rainFromItsFirstToItsLastHour();
        rainsFallTogether();
        flowAbove100();
        flowToLessHeight();
        noFlowAcrossTheBorder();
        flowFromFourSides();
        flowThenLoss();
        dryAt0And1();
        offersAtAQuarterOfFull();
        offersAtAQuarterOf500();
        offersByNumbers();
        offersByCost();
        offersNeedAWay();
        chargedInOneHour();
        chargedInTwoHours();
        chargedInThreeHours();
        lastChargeMoves();
        workIsDoneWithCharge0();
        homeWithCharge0();
        flatDoesNothing();
        stuckAtHomeDoesNothing();
        noWayAndCharge0();
        pullOfNone();
        pullInACorner();
        pullGoesToTheLeastOfSeveral();
        pulledCartsHaveTheirTurn();
        wayAtTheLimit();
        wayFromAShutCell();
        drownedAbove600();
        grownFrom50To300();
        toldEdges();
        jobEdges();
        wayEdges();
        waterEdges();
        Check.end();
    }

    private static void passLeastAndMost() {
        PloughField x = new PloughField();
        Check.due("0 hours", x.pass(0), -1);
        Check.due("1 hour", x.pass(1), 1);
        Check.due("200 hours", x.pass(200), 201);
        Check.due("201 hours", x.pass(201), -1);
        Check.due("-1 hours", x.pass(-1), -1);
        Check.due("now", x.count(0), 201);
    }

    private static void passToTheLastHour() {
        PloughField x = new PloughField();
        x.pass(200);
        x.pass(200);
        x.pass(119);
        Check.due("519 and 200", x.pass(200), 719);
        Check.due("719 and 1", x.pass(1), -1);
        PloughField y = new PloughField();
        y.pass(200);
        y.pass(200);
        y.pass(120);
        Check.due("520 and 200", y.pass(200), -1);
        Check.due("still 520", y.count(0), 520);
        Check.due("520 and 199", y.pass(199), 719);
    }

    private static PloughField withPlants(int... cells) {
        PloughField x = new PloughField();
        x.kind(true, 1, 50, 50, 50, 50);
        for (int cell : cells) {
            x.plant(cell);
        }
        return x;
    }

    private static void daysEndAt24() {
        PloughField x = withPlants(5);
        int[] hours = {23, 24, 25, 47, 48, 49, 119, 120, 121, 319, 336, 500, 695, 696, 697, 719};
        int now = 0;
        for (int hour : hours) {
            x.pass(hour - now);
            now = hour;
            Check.due("days at " + hour, x.cell(5, 4), hour / 24);
        }
    }

    private static void rainFromItsFirstToItsLastHour() {
        PloughField x = new PloughField();
        x.rain(3, 5, 10);
        int[] fallen = {0, 0, 0, 10, 20, 30, 30};
        for (int hour = 1; hour <= 6; hour++) {
            x.pass(1);
            Check.due("fallen by hour " + hour, x.water(1), 64L * fallen[hour]);
        }
    }

    private static void rainsFallTogether() {
        PloughField x = new PloughField();
        x.rain(1, 2, 99);
        x.rain(2, 3, 99);
        x.rain(2, 2, 1);
        x.pass(1);
        Check.due("hour 1", x.cell(0, 1), 98);
        x.pass(1);
        Check.due("hour 2", x.cell(0, 1), 98 + 199 - 1);
        x.pass(1);
        Check.due("hour 3", x.cell(0, 1), 98 + 198 + 98);
    }

    private static void flowAbove100() {
        int[] wet = {99, 100, 101, 102, 103, 104, 999};
        int[] half = {0, 0, 0, 1, 1, 2, 449};
        for (int i = 0; i < wet.length; i++) {
            PloughField x = new PloughField();
            x.land(9, 1, wet[i]);
            x.land(1, 0, 10);
            x.pass(1);
            Check.due("of " + wet[i] + " stays", x.cell(9, 1), wet[i] - half[i] - 1);
            Check.due("of " + wet[i] + " comes", x.cell(1, 1), 10 + half[i] - 1);
        }
    }

    /** A field of this height everywhere. */
    private static PloughField plain(int height) {
        PloughField x = new PloughField();
        for (int cell = 0; cell < 64; cell++) {
            x.land(cell, height, 0);
        }
        return x;
    }

    private static void flowToLessHeight() {
        int[] beside = {49, 50, 51, 99};
        int[] comes = {49, 0, 0, 0};
        for (int i = 0; i < beside.length; i++) {
            PloughField x = plain(50);
            x.land(9, 50, 200);
            for (int cell : new int[] {1, 8, 10, 17}) {
                x.land(cell, cell == 17 ? beside[i] : 99, 0);
            }
            x.pass(1);
            Check.due("to height " + beside[i], x.cell(17, 1), comes[i]);
        }
        // from 99 to 0, the widest step, and of several the lowest, of these the least
        PloughField x = plain(99);
        x.land(9, 99, 200);
        x.land(17, 0, 0);
        x.land(10, 0, 0);
        x.land(1, 1, 0);
        x.land(8, 1, 0);
        x.pass(1);
        Check.due("the least of the lowest", x.cell(10, 1), 49);
        Check.due("not the other", x.cell(17, 1), 0);
        Check.due("nor a higher one", x.cell(1, 1) + x.cell(8, 1), 0);
    }

    private static void noFlowAcrossTheBorder() {
        int[][] pairs = {{7, 8}, {8, 7}, {0, 7}, {7, 0}, {0, 56}, {56, 0}, {0, 63}, {63, 0}, {55, 56}, {56, 55}, {15, 16}};
        for (int[] pair : pairs) {
            PloughField x = plain(50);
            x.land(pair[0], 50, 300);
            x.land(pair[1], 0, 0);
            x.pass(1);
            Check.due(pair[0] + " keeps", x.cell(pair[0], 1), 299);
            Check.due(pair[1] + " gets none", x.cell(pair[1], 1), 0);
        }
    }

    private static void flowFromFourSides() {
        PloughField x = plain(50);
        x.land(9, 0, 999);
        for (int cell : new int[] {1, 8, 10, 17}) {
            x.land(cell, 50, 102);
        }
        x.pass(1);
        Check.due("four come, one is lost", x.cell(9, 1), 999 + 4 - 1);
        Check.due("one goes, one is lost", x.cell(17, 1), 100);
    }

    private static void flowThenLoss() {
        PloughField x = new PloughField();
        x.land(9, 1, 102);
        x.pass(1);
        Check.due("what came is lost at once", x.cell(1, 1), 0);
        Check.due("two were lost", x.water(2), 2);
        Check.due("all", x.water(0), 100);
    }

    private static void dryAt0And1() {
        PloughField x = new PloughField();
        x.land(0, 0, 1);
        x.land(63, 0, 2);
        x.pass(1);
        Check.due("1 is lost", x.cell(0, 1), 0);
        Check.due("1 of 2 is lost", x.cell(63, 1), 1);
        x.pass(5);
        Check.due("no less than 0", x.cell(0, 1), 0);
        Check.due("lost", x.water(2), 3);
    }

    /** A cart with this FULL that goes from 0 to the cell and then has this charge. */
    private static PloughField used(int full, int cell, int charge) {
        PloughField x = new PloughField();
        x.cart(0, 1, 999, 0, full);
        x.work(0, cell, 0);
        x.pass(full - charge + 1);
        Check.due("charge", x.told(0, 2), charge);
        Check.due("idle", x.told(0, 3), 0);
        return x;
    }

    private static void offersAtAQuarterOfFull() {
        // cell 15 is 8 from 0, 23 is 9, 31 is 10
        int[][] edges = {{12, 23, 3, 1}, {13, 31, 3, 0}, {11, 15, 3, 1}, {10, 15, 2, 0}};
        for (int[] e : edges) {
            PloughField x = used(e[0], e[1], e[2]);
            x.work(0, e[1] - 1, 0);
            x.pass(1);
            Check.due(e[2] + " of " + e[0] + ": the work", x.job(1, 3), e[3]);
            Check.due(e[2] + " of " + e[0] + ": the cart", x.told(0, 3), e[3] == 1 ? 1 : 2);
        }
    }

    private static void offersAtAQuarterOf500() {
        PloughField x = new PloughField();
        x.cart(0, 1, 999, 0, 500);
        for (int i = 0; i < 26; i++) {
            x.work(0, i % 2 == 0 ? 63 : 0, 0);
        }
        x.work(0, 60, 0);
        x.pass(200);
        x.pass(200);
        x.pass(2);
        Check.due("375 moves", x.told(0, 2), 125);
        Check.due("all done", x.count(6), 27);
        x.pass(1);
        Check.due("125 of 500 stays idle", x.told(0, 3), 0);
        x.work(0, 61, 0);
        x.pass(2);
        Check.due("125 of 500 takes on", x.job(27, 3), 2);
        x.work(0, 62, 0);
        x.pass(1);
        Check.due("124 of 500 doesn't", x.job(28, 3), 0);
        Check.due("it goes home", x.told(0, 3), 2);
    }

    private static void offersByNumbers() {
        PloughField x = new PloughField();
        x.cart(0, 1, 999, 0, 100);
        x.work(0, 63, 0);
        x.work(0, 0, 0);
        x.pass(1);
        Check.due("the first, though it's far", x.job(0, 4), 0);
        Check.due("the second waits", x.job(1, 3), 0);
    }

    private static void offersByCost() {
        PloughField x = new PloughField();
        x.cart(0, 2, 999, 0, 100);
        x.cart(0, 1, 999, 63, 100);
        x.work(0, 4, 0);
        x.pass(1);
        // cart 0 has 4 cells of 2, cart 1 has 10 of 1
        Check.due("8 is less than 10", x.job(0, 4), 0);
        PloughField y = new PloughField();
        y.cart(0, 3, 999, 0, 100);
        y.cart(0, 1, 999, 63, 100);
        y.work(0, 4, 0);
        y.pass(1);
        Check.due("10 is less than 12", y.job(0, 4), 1);
        PloughField z = new PloughField();
        z.cart(1, 1, 999, 4, 100);
        z.cart(0, 2, 999, 0, 100);
        z.cart(0, 1, 999, 60, 100);
        z.cart(0, 1, 999, 12, 100);
        z.work(0, 4, 0);
        z.work(0, 4, 0);
        z.work(0, 36, 0);
        z.pass(1);
        Check.due("the cheapest", z.job(0, 4), 3);
        Check.due("7 is less than 8", z.job(1, 4), 2);
        Check.due("the one that is left", z.job(2, 4), 1);
        PloughField w = new PloughField();
        w.cart(0, 2, 999, 2, 100);
        w.cart(0, 1, 999, 32, 100);
        w.work(0, 0, 0);
        w.pass(1);
        Check.due("4 each: the least number, though it's fewer cells", w.job(0, 4), 0);
        PloughField v = new PloughField();
        v.cart(0, 1, 999, 32, 100);
        v.cart(0, 2, 999, 2, 100);
        v.work(0, 0, 0);
        v.pass(1);
        Check.due("4 each: the least number, though it's more cells", v.job(0, 4), 0);
    }

    private static void offersNeedAWay() {
        PloughField x = new PloughField();
        x.cart(0, 5, 999, 1, 100);
        x.cart(0, 4, 999, 63, 100);
        x.set(0, 4);
        x.work(0, 0, 0);
        x.work(0, 1, 0);
        x.pass(1);
        Check.due("the far one has a way", x.job(0, 4), 1);
        Check.due("who is there needs none", x.job(1, 4), 0);
        Check.due("and does it", x.job(1, 3), 2);
    }

    /** A cart that comes home with FULL less twice the cells between 0 and the given one, then idle. */
    private static PloughField backHome(int full, int cell, int away) {
        PloughField x = new PloughField();
        x.cart(0, 1, 999, 0, full);
        x.work(0, cell, 0);
        x.work(0, 0, 0);
        x.pass(2 * away + 2);
        Check.due("home", x.told(0, 1), 0);
        Check.due("charge", x.told(0, 2), full - 2 * away);
        Check.due("idle", x.told(0, 3), 0);
        return x;
    }

    private static void chargedInOneHour() {
        PloughField x = backHome(12, 5, 5);
        x.pass(1);
        Check.due("2 and 10 are 12", x.told(0, 2), 12);
        Check.due("full: idle at once", x.told(0, 3), 0);
        PloughField y = backHome(10, 4, 4);
        y.pass(1);
        Check.due("2 and 10: no more than 10", y.told(0, 2), 10);
        Check.due("full: idle at once", y.told(0, 3), 0);
    }

    private static void chargedInTwoHours() {
        PloughField x = backHome(26, 31, 10);
        x.pass(1);
        Check.due("6 and 10", x.told(0, 2), 16);
        Check.due("charges", x.told(0, 3), 3);
        x.pass(1);
        Check.due("26 of 26", x.told(0, 2), 26);
        Check.due("idle", x.told(0, 3), 0);
        x.pass(1);
        Check.due("no more", x.told(0, 2), 26);
    }

    private static void chargedInThreeHours() {
        PloughField x = backHome(27, 39, 11);
        int[] charge = {15, 25, 27};
        int[] does = {3, 3, 0};
        for (int i = 0; i < 3; i++) {
            x.pass(1);
            Check.due("charge in hour " + i, x.told(0, 2), charge[i]);
            Check.due("does in hour " + i, x.told(0, 3), does[i]);
        }
    }

    private static void lastChargeMoves() {
        PloughField x = new PloughField();
        x.cart(0, 1, 999, 0, 10);
        x.work(0, 63, 0);
        x.pass(9);
        Check.due("1 left", x.told(0, 2), 1);
        int before = x.told(0, 1);
        x.pass(1);
        Check.due("it moved by its last", x.told(0, 2), 0);
        Check.due("to another cell", x.told(0, 1) != before, true);
        Check.due("it goes", x.told(0, 3), 1);
        Check.due("its work is taken on", x.job(0, 3), 1);
        int where = x.told(0, 1);
        x.pass(1);
        Check.due("flat", x.told(0, 3), 5);
        Check.due("where it was", x.told(0, 1), where);
        Check.due("not below 0", x.told(0, 2), 0);
        Check.due("no work", x.told(0, 4), -1);
        Check.due("its work is open", x.job(0, 3), 0);
    }

    private static void workIsDoneWithCharge0() {
        PloughField x = new PloughField();
        x.cart(0, 1, 999, 0, 10);
        x.work(0, 31, 0);
        x.pass(10);
        Check.due("there with 0", x.told(0, 2), 0);
        Check.due("it goes", x.told(0, 3), 1);
        x.pass(1);
        Check.due("done", x.job(0, 3), 2);
        Check.due("done by it", x.job(0, 4), 0);
        Check.due("idle with 0", x.told(0, 3), 0);
        Check.due("without a work", x.told(0, 4), -1);
        x.pass(1);
        Check.due("it would go home: flat", x.told(0, 3), 5);
    }

    private static void homeWithCharge0() {
        PloughField x = new PloughField();
        x.cart(0, 1, 999, 0, 10);
        x.work(0, 4, 0);
        x.work(0, 1, 0);
        x.work(0, 10, 0);
        x.pass(9);
        Check.due("on 1 with 3", x.told(0, 2), 3);
        x.pass(3);
        Check.due("on 10 with 1", x.told(0, 2), 1);
        x.pass(1);
        Check.due("homeward with 0", x.told(0, 2), 0);
        x.pass(1);
        Check.due("flat two cells from home", x.told(0, 3), 5);
        Check.due("on 2", x.told(0, 1), 2);
        PloughField y = new PloughField();
        y.cart(0, 1, 999, 0, 10);
        y.work(0, 5, 0);
        y.work(0, 0, 0);
        y.pass(11);
        Check.due("home with 0, at its work", y.told(0, 2), 0);
        y.pass(1);
        Check.due("done", y.job(1, 3), 2);
        y.pass(1);
        Check.due("charged from 0", y.told(0, 2), 10);
        Check.due("idle", y.told(0, 3), 0);
    }

    private static void flatDoesNothing() {
        PloughField x = new PloughField();
        x.cart(0, 1, 999, 0, 10);
        x.work(0, 63, 0);
        x.pass(11);
        int where = x.told(0, 1);
        x.work(0, where, 0);
        x.pass(50);
        Check.due("flat", x.told(0, 3), 5);
        Check.due("with 0", x.told(0, 2), 0);
        Check.due("where it was", x.told(0, 1), where);
        Check.due("it takes on nothing", x.count(5), 2);
        x.charge(0);
        x.pass(1);
        Check.due("it goes on", x.job(0, 4), 0);
    }

    private static void stuckAtHomeDoesNothing() {
        PloughField x = new PloughField();
        x.cart(0, 1, 100, 0, 12);
        x.work(0, 5, 0);
        x.work(0, 1, 0);
        x.pass(11);
        Check.due("on 1 with 3", x.told(0, 2), 3);
        x.work(0, 2, 0);
        x.pass(2);
        Check.due("on 2 with 2", x.told(0, 2), 2);
        x.land(0, 0, 500);
        x.pass(2);
        Check.due("stuck at home", x.told(0, 3), 4);
        Check.due("on 0", x.told(0, 1), 0);
        x.pass(30);
        Check.due("it isn't charged there", x.told(0, 2), 0);
        Check.due("stuck still", x.told(0, 3), 4);
        Check.due("nor can it be told to be", x.charge(0), false);
    }

    private static void noWayAndCharge0() {
        // without a way a cart that goes has its work opened, a cart on its way home waits, also with charge 0
        PloughField x = new PloughField();
        x.cart(0, 2, 999, 0, 10);
        x.work(0, 63, 0);
        x.pass(10);
        x.set(0, 1);
        x.pass(1);
        Check.due("no way: its work is open", x.job(0, 3), 0);
        Check.due("no way: idle, not flat", x.told(0, 3), 0);
        x.pass(1);
        Check.due("homeward it waits", x.told(0, 3), 2);
        x.pass(5);
        Check.due("it waits still", x.told(0, 3), 2);
        x.set(0, 500);
        x.pass(1);
        Check.due("with a way it's flat", x.told(0, 3), 5);
    }

    private static void pullOfNone() {
        PloughField x = new PloughField();
        x.cart(3, 1, 999, 1, 100);
        x.cart(0, 1, 999, 0, 100);
        x.work(3, 0, 0);
        x.pass(1);
        Check.due("done from beside it", x.job(0, 3), 2);
        Check.due("who isn't stuck stays", x.told(1, 1), 0);
    }

    private static void pullInACorner() {
        int[] corners = {0, 7, 56, 63};
        int[] from = {1, 6, 48, 55};
        for (int i = 0; i < 4; i++) {
            PloughField x = new PloughField();
            x.cart(3, 1, 999, corners[i], 100);
            x.work(3, corners[i], 0);
            x.pass(1);
            Check.due("out of corner " + corners[i], x.told(0, 1), from[i]);
            x.pass(1);
            Check.due("done", x.job(0, 3), 2);
        }
    }

    private static void pullGoesToTheLeastOfSeveral() {
        // for 8 from 1: 0 and 9 are one cell each, the least is gone to
        PloughField x = new PloughField();
        x.cart(3, 1, 999, 1, 100);
        x.work(3, 8, 0);
        x.pass(1);
        Check.due("0, not 9", x.told(0, 1), 0);
        // with 0 wet 9 costs less
        PloughField y = new PloughField();
        y.land(0, 0, 200);
        y.cart(3, 1, 999, 1, 100);
        y.work(3, 8, 0);
        y.pass(1);
        Check.due("9, as it costs less", y.told(0, 1), 9);
        // for 27 from 3: 19 is two cells of 3, 26 and 28 are three of 1 and one of 3: the fewest cells are gone
        PloughField z = new PloughField();
        z.land(11, 0, 250);
        z.land(19, 0, 250);
        z.land(26, 0, 250);
        z.land(28, 0, 250);
        z.cart(3, 1, 999, 3, 100);
        z.work(3, 27, 0);
        z.pass(1);
        Check.due("11, as it's fewer cells", z.told(0, 1), 11);
    }

    private static void pulledCartsHaveTheirTurn() {
        for (int puller = 0; puller <= 1; puller++) {
            int stuck = 1 - puller;
            PloughField x = new PloughField();
            for (int i = 0; i < 2; i++) {
                x.cart(i == puller ? 3 : 0, 1, i == puller ? 999 : 100, i == puller ? 15 : 0, i == puller ? 100 : 10);
            }
            x.land(7, 0, 300);
            x.work(0, 14, 0);
            x.pass(8);
            Check.due("idle on 14 with 3", x.told(stuck, 2), 3);
            x.work(0, 7, 0);
            x.pass(2);
            Check.due("stuck on 7 with 1", x.told(stuck, 2), 1);
            Check.due("stuck", x.told(stuck, 3), 4);
            x.work(3, 7, 0);
            x.pass(1);
            // the later number has its turn in the same hour: idle with 1 of 10 it turns homeward and moves
            Check.due("puller " + puller + ": what it does", x.told(stuck, 3), stuck == 1 ? 2 : 0);
            Check.due("puller " + puller + ": its charge", x.told(stuck, 2), stuck == 1 ? 0 : 1);
            Check.due("puller " + puller + ": its cell", x.told(stuck, 1), stuck == 1 ? 14 : x.told(puller, 1));
        }
    }

    private static void wayAtTheLimit() {
        PloughField x = new PloughField();
        x.cart(0, 10, 999, 0, 100);
        x.cart(1, 10, 999, 0, 100);
        x.set(0, 19);
        x.work(0, 1, 0);
        x.pass(2);
        Check.due("10 and 10 are above 19", x.way(1, 1, 0), -1);
        x.set(0, 20);
        Check.due("but not above 20", x.way(1, 1, 0), 10);
        x.land(1, 0, 100);
        Check.due("10 and 20 are", x.way(1, 1, 0), -1);
    }

    private static void wayFromAShutCell() {
        PloughField x = new PloughField();
        x.land(1, 0, 300);
        x.cart(0, 1, 100, 0, 100);
        x.work(0, 1, 0);
        x.pass(1);
        Check.due("stuck", x.told(0, 3), 4);
        Check.due("itself on its map", x.told(0, 101), 1);
        Check.due("to where it is: cost", x.way(0, 1, 0), 0);
        Check.due("to where it is: cells", x.way(0, 1, 1), 0);
        Check.due("to where it is: next", x.way(0, 1, 2), 1);
        Check.due("out of it", x.way(0, 2, 1), 1);
        Check.due("out of it", x.way(0, 0, 2), 0);
    }

    private static void drownedAbove600() {
        PloughField x = withPlants(0, 1, 8);
        x.pass(23);
        x.land(0, 0, 601);
        x.land(1, 0, 602);
        x.pass(1);
        Check.due("600", x.cell(0, 10), 0);
        Check.due("601", x.cell(1, 10), 4);
        Check.due("0", x.cell(8, 10), 0);
        Check.due("a drowned one doesn't grow", x.cell(1, 4), 0);
        x.land(0, 0, 999);
        x.pass(23);
        Check.due("not before the day ends", x.cell(0, 10), 0);
        x.pass(1);
        Check.due("then", x.cell(0, 10), 4);
    }

    private static void grownFrom50To300() {
        int[] wet = {0, 49, 50, 51, 299, 300, 301, 600};
        int[] grown = {1, 1, 2, 2, 2, 2, 1, 1};
        for (int i = 0; i < wet.length; i++) {
            PloughField x = withPlants(5);
            x.pass(23);
            x.land(5, 0, wet[i] == 0 ? 0 : wet[i] + 1);
            x.pass(1);
            Check.due("wet", x.cell(5, 1), wet[i]);
            Check.due("grown by, at " + wet[i], x.cell(5, 4), grown[i]);
        }
    }

    private static void toldEdges() {
        PloughField x = new PloughField();
        x.cart(1, 1, 50, 9, 100);
        x.cart(2, 1, 50, 10, 100);
        int[] whats = {-1, 0, 5, 6, 99, 100, 163, 164, Integer.MIN_VALUE, Integer.MAX_VALUE};
        int[] first = {-2, 1, 0, -2, -2, 0, 0, -2, -2, -2};
        int[] second = {-2, 2, 0, -2, -2, 0, 0, -2, -2, -2};
        for (int i = 0; i < whats.length; i++) {
            Check.due("of cart -1: " + whats[i], x.told(-1, whats[i]), -2);
            Check.due("of cart 0: " + whats[i], x.told(0, whats[i]), first[i]);
            Check.due("of cart 1: " + whats[i], x.told(1, whats[i]), second[i]);
            Check.due("of cart 2: " + whats[i], x.told(2, whats[i]), -2);
        }
        for (int corner = 0; corner < 64; corner += 63) {
            PloughField y = new PloughField();
            y.land(corner, 0, 300);
            y.cart(0, 1, 50, corner == 0 ? 1 : 62, 100);
            y.work(0, corner, 0);
            y.pass(1);
            for (int cell = 0; cell < 64; cell++) {
                Check.due("heard of " + cell, y.told(0, 100 + cell), cell == corner ? 1 : 0);
            }
        }
    }

    private static void jobEdges() {
        PloughField x = new PloughField();
        x.work(2, 63, 999);
        x.work(1, 0, 0);
        int[] whats = {-1, 0, 1, 2, 3, 4, 5, Integer.MIN_VALUE, Integer.MAX_VALUE};
        int[] first = {-2, 2, 63, 999, 0, -1, -2, -2, -2};
        int[] second = {-2, 1, 0, 0, 0, -1, -2, -2, -2};
        for (int i = 0; i < whats.length; i++) {
            Check.due("of work -1: " + whats[i], x.job(-1, whats[i]), -2);
            Check.due("of work 0: " + whats[i], x.job(0, whats[i]), first[i]);
            Check.due("of work 1: " + whats[i], x.job(1, whats[i]), second[i]);
            Check.due("of work 2: " + whats[i], x.job(2, whats[i]), -2);
        }
    }

    private static void wayEdges() {
        PloughField x = new PloughField();
        x.cart(0, 2, 999, 0, 100);
        int[] whats = {-1, 0, 1, 2, 3, Integer.MIN_VALUE, Integer.MAX_VALUE};
        int[] far = {-1, 28, 14, 1, -1, -1, -1};
        int[] here = {-1, 0, 0, 0, -1, -1, -1};
        for (int i = 0; i < whats.length; i++) {
            Check.due("to 63: " + whats[i], x.way(0, 63, whats[i]), far[i]);
            Check.due("to 0: " + whats[i], x.way(0, 0, whats[i]), here[i]);
            Check.due("to 64: " + whats[i], x.way(0, 64, whats[i]), -1);
            Check.due("to -1: " + whats[i], x.way(0, -1, whats[i]), -1);
            Check.due("of cart 1: " + whats[i], x.way(1, 0, whats[i]), -1);
            Check.due("of cart -1: " + whats[i], x.way(-1, 0, whats[i]), -1);
        }
        for (int cell = 0; cell < 64; cell += 9) {
            PloughField y = new PloughField();
            y.cart(0, 1, 999, cell, 100);
            Check.due("next of one that's on " + cell, y.way(0, cell, 2), cell);
        }
        Check.due("the border isn't crossed: 7 to 8", x.way(0, 7, 1) + x.way(0, 8, 1), 8);
        PloughField y = new PloughField();
        y.cart(0, 1, 999, 7, 100);
        Check.due("from 7 to 8", y.way(0, 8, 1), 8);
        Check.due("from 7 to 56", y.way(0, 56, 1), 14);
        Check.due("from 7 to 63", y.way(0, 63, 1), 7);
    }

    private static void waterEdges() {
        PloughField x = new PloughField();
        x.land(0, 0, 10);
        x.rain(1, 1, 2);
        x.pass(1);
        long[] want = {-1, 74, 128, 64, -1};
        for (int what = -1; what <= 3; what++) {
            Check.due("water " + what, x.water(what), want[what + 1]);
        }
        Check.due("water low", x.water(Integer.MIN_VALUE), -1);
        Check.due("water high", x.water(Integer.MAX_VALUE), -1);
        x.land(1, 0, 500);
        Check.due("land adds to all wet", x.water(0), 74 + 500 - 1);
        Check.due("but not to what fell", x.water(1), 128);
        Check.due("nor to what was lost", x.water(2), 64);
    }
}
