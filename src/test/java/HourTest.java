/** Promises 14, 15, 17 to 20: hours, water, offers, ways and what carts do. */
public final class HourTest {
    public static void main(String[] args) {
        promise14Pass();
        rainFallsInItsHours();
        flowAtOnce();
        flowChoosesLowestThenLeast();
        flowAtTheFirstAndLastCell();
        bornAtFirst();
        promise19Way();
        wayTies();
        wayShut();
        offersGoToTheCheapest();
        offersAskForCharge();
        idleLowGoesHomeAndCharges();
        homewardWaits();
        flatOnTheWayHome();
        noWayReopens();
        lookTakeGive();
        worksWithoutPlant();
        wheel();
        stuckAndHeard();
        pullBrings();
        pullFromTheSameCell();
        pullByAnotherCart();
        theLastWork();
        promise17Told();
        promise18Job();
        promise20Water();
        Check.end();
    }

    private static void promise14Pass() {
        PloughField x = new PloughField();
        int[] wrong = {0, -1, 201, Integer.MIN_VALUE, Integer.MAX_VALUE};
        for (int n : wrong) {
            Check.due("pass " + n, x.pass(n), -1);
        }
        Check.due("pass 200", x.pass(200), 200);
        Check.due("pass 200", x.pass(200), 400);
        Check.due("pass 200", x.pass(200), 600);
        Check.due("pass 120", x.pass(120), -1);
        Check.due("still 600", x.count(0), 600);
        Check.due("pass 119", x.pass(119), 719);
        Check.due("no more", x.pass(1), -1);
        Check.due("passing isn't told", x.count(1), 0);
    }

    private static void rainFallsInItsHours() {
        PloughField x = new PloughField();
        x.rain(2, 3, 50);
        x.rain(3, 3, 7);
        x.pass(1);
        Check.due("hour 1", x.cell(0, 1), 0);
        x.pass(1);
        Check.due("hour 2", x.cell(0, 1), 49);
        x.pass(1);
        Check.due("hour 3", x.cell(63, 1), 105);
        x.pass(1);
        Check.due("hour 4", x.cell(63, 1), 104);
        Check.due("fallen", x.water(1), 64L * 107);
        Check.due("lost", x.water(2), 64L * 3);
        Check.due("all", x.water(0), 64L * 104);
    }

    private static void flowAtOnce() {
        // 10 flows to 9 and 9 to 8 in the same hour, each by what it had before
        PloughField x = new PloughField();
        for (int cell = 0; cell < 64; cell++) {
            x.land(cell, 50, 0);
        }
        x.land(10, 20, 205);
        x.land(9, 10, 101);
        x.land(8, 0, 100);
        x.pass(1);
        Check.due("10", x.cell(10, 1), 205 - 52 - 1);
        Check.due("9 has 101: half of 1 is 0", x.cell(9, 1), 101 + 52 - 1);
        Check.due("8", x.cell(8, 1), 99);
        x.pass(1);
        Check.due("10", x.cell(10, 1), 152 - 26 - 1);
        Check.due("9", x.cell(9, 1), 152 - 26 + 26 - 1);
        Check.due("8", x.cell(8, 1), 99 + 26 - 1);
        x.pass(1);
        Check.due("8 is the lowest and keeps", x.cell(8, 1), 124 + 25 - 1);
    }

    private static void flowChoosesLowestThenLeast() {
        PloughField x = new PloughField();
        x.land(9, 10, 200);
        x.land(1, 5, 0);
        x.land(8, 4, 0);
        x.land(10, 4, 0);
        x.land(17, 6, 0);
        x.pass(1);
        Check.due("least height, then least cell", x.cell(8, 1), 49);
        Check.due("not 10", x.cell(10, 1), 0);
        PloughField y = new PloughField();
        for (int cell : new int[] {1, 8, 10, 17}) {
            y.land(cell, 10, 0);
        }
        y.land(9, 10, 200);
        y.pass(1);
        Check.due("no flow to the same height", y.cell(9, 1), 199);
        // the end of a row and the beginning of the next are not beside each other
        PloughField z = new PloughField();
        for (int cell = 0; cell < 64; cell++) {
            z.land(cell, 9, 0);
        }
        z.land(8, 0, 0);
        z.land(7, 9, 300);
        z.pass(1);
        Check.due("7 is not beside 8", z.cell(7, 1), 299);
    }

    private static void flowAtTheFirstAndLastCell() {
        PloughField x = new PloughField();
        x.land(0, 5, 200);
        x.land(63, 5, 200);
        x.pass(1);
        Check.due("from 0", x.cell(0, 1), 149);
        Check.due("to 1", x.cell(1, 1), 49);
        Check.due("from 63", x.cell(63, 1), 149);
        Check.due("to 55", x.cell(55, 1), 49);
        PloughField y = new PloughField();
        y.land(1, 5, 200);
        y.land(62, 5, 200);
        y.pass(1);
        Check.due("to 0", y.cell(0, 1), 49);
        Check.due("to 54", y.cell(54, 1), 49);
    }

    private static void bornAtFirst() {
        // BEARS is 200 at first, LIMIT 500
        PloughField x = new PloughField();
        x.kind(true, 1, 80, 50, 50, 50);
        x.land(1, 0, 400);
        x.plant(1);
        x.cart(0, 50, 999, 0, 100);
        x.work(0, 1, 0);
        x.pass(1);
        Check.due("pressed by 200", x.cell(1, 2), 200);
        Check.due("200 is borne", x.cell(1, 3), 1);
        x.cart(1, 1, 999, 2, 100);
        x.land(1, 0, 0);
        x.work(1, 1, 0);
        x.pass(1);
        Check.due("pressed by 201", x.cell(1, 2), 201);
        Check.due("201 is not", x.cell(1, 10), 3);
        x.cart(0, 50, 999, 2, 100);
        x.land(1, 0, 500);
        Check.due("201 and 300 are above 500", x.way(2, 1, 0), -1);
        x.land(1, 0, 499);
        Check.due("201 and 250 are not", x.way(2, 1, 0), 250);
        PloughField y = new PloughField();
        y.cart(0, 1, 999, 0, 100);
        y.work(0, 1, 0);
        y.pass(1);
        y.cart(0, 50, 999, 2, 100);
        y.land(1, 0, 999);
        Check.due("1 and 500 are above 500", y.way(1, 1, 0), -1);
    }

    private static void promise19Way() {
        PloughField x = new PloughField();
        Check.due("no cart", x.way(0, 0, 0), -1);
        x.cart(0, 10, 999, 0, 100);
        x.land(1, 0, 399);
        Check.due("cost", x.way(0, 2, 0), 40);
        Check.due("heavy four times", x.way(0, 1, 0), 40);
        Check.due("cells", x.way(0, 2, 1), 4);
        Check.due("next", x.way(0, 2, 2), 8);
        Check.due("cost to itself", x.way(0, 0, 0), 0);
        Check.due("cells to itself", x.way(0, 0, 1), 0);
        Check.due("next to itself", x.way(0, 0, 2), 0);
        Check.due("far end", x.way(0, 63, 1), 14);
        Check.due("wrong cart", x.way(1, 0, 0), -1);
        Check.due("wrong cart", x.way(-1, 0, 0), -1);
        Check.due("wrong cell", x.way(0, 64, 0), -1);
        Check.due("wrong cell", x.way(0, -1, 0), -1);
        Check.due("wrong what", x.way(0, 5, 3), -1);
        Check.due("wrong what", x.way(0, 5, -1), -1);
    }

    private static void wayTies() {
        // to 2 by 1 costs 10 * 3 and 10, by 8, 9, 10 it costs 10 four times: equal cost, fewer cells win
        PloughField x = new PloughField();
        x.cart(0, 10, 999, 0, 100);
        x.land(1, 0, 200);
        Check.due("cost", x.way(0, 2, 0), 40);
        Check.due("fewest cells", x.way(0, 2, 1), 2);
        Check.due("next", x.way(0, 2, 2), 1);
        // all ways to 18 are alike: the least next cell
        Check.due("least next", x.way(0, 18, 2), 8);
        x.land(1, 0, 0);
        Check.due("least next", x.way(0, 18, 2), 1);
        // from below the least next one lies above
        PloughField y = new PloughField();
        y.cart(0, 10, 999, 63, 100);
        Check.due("up before left", y.way(0, 45, 2), 55);
    }

    private static void wayShut() {
        PloughField x = new PloughField();
        x.cart(0, 10, 999, 0, 100);
        x.set(0, 29);
        x.land(1, 0, 200);
        x.land(8, 0, 200);
        Check.due("shut in", x.way(0, 63, 0), -1);
        Check.due("shut in", x.way(0, 1, 2), -1);
        Check.due("itself", x.way(0, 0, 2), 0);
        x.set(0, 30);
        Check.due("30 is borne", x.way(0, 1, 0), 30);
        // PRESS counts too: after 10 was pressed, 20 more are borne by 30, 21 are not
        PloughField y = new PloughField();
        y.cart(0, 10, 999, 0, 100);
        y.work(0, 1, 0);
        y.pass(2);
        y.cart(0, 20, 999, 0, 100);
        y.cart(0, 21, 999, 0, 100);
        y.set(0, 30);
        Check.due("press", y.cell(1, 2), 10);
        Check.due("20 is borne", y.way(1, 1, 0), 20);
        Check.due("21 is not", y.way(2, 1, 0), -1);
    }

    private static void offersGoToTheCheapest() {
        PloughField x = new PloughField();
        x.cart(0, 10, 999, 0, 100);
        x.cart(0, 9, 999, 0, 100);
        x.cart(0, 9, 999, 0, 100);
        x.cart(1, 1, 999, 0, 100);
        x.work(0, 5, 0);
        x.work(0, 6, 0);
        x.work(0, 7, 0);
        x.work(0, 7, 0);
        x.work(1, 56, 0);
        x.pass(1);
        Check.due("least cost, least number", x.job(0, 4), 1);
        Check.due("then the other", x.job(1, 4), 2);
        Check.due("then the heavy one", x.job(2, 4), 0);
        Check.due("none left", x.job(3, 4), -1);
        Check.due("still open", x.job(3, 3), 0);
        Check.due("a taker takes", x.job(4, 4), 3);
        Check.due("goes", x.told(1, 3), 1);
        Check.due("its work", x.told(1, 4), 0);
        Check.due("open", x.count(5), 1);
        Check.due("done", x.count(6), 0);
    }

    private static void offersAskForCharge() {
        // FULL 41: with 11 left 44 is at least 41, with 10 left 40 is below
        PloughField x = new PloughField();
        x.cart(0, 1, 999, 0, 41);
        x.work(0, 7, 0);
        x.work(0, 0, 0);
        x.work(0, 7, 0);
        x.work(0, 0, 0);
        x.pass(8);
        Check.due("first done", x.job(0, 3), 2);
        Check.due("34 left", x.told(0, 2), 34);
        x.pass(1);
        Check.due("7 again without a step, as the works go by numbers: 1 first", x.job(1, 3), 1);
        x.pass(7);
        Check.due("27 left", x.told(0, 2), 27);
        x.pass(8);
        Check.due("20 left", x.told(0, 2), 20);
        x.pass(8);
        Check.due("13 left", x.told(0, 2), 13);
        Check.due("all done", x.count(6), 4);
        x.work(0, 2, 0);
        x.pass(3);
        Check.due("done with 11 left", x.told(0, 2), 11);
        x.work(0, 3, 0);
        x.pass(2);
        Check.due("11 times 4 is enough", x.job(5, 3), 2);
        Check.due("10 left", x.told(0, 2), 10);
        x.work(0, 4, 0);
        x.pass(1);
        Check.due("10 times 4 is not", x.job(6, 3), 0);
        Check.due("it goes home at once", x.told(0, 3), 2);
        Check.due("by one cell", x.told(0, 1), 2);
        // FULL 12: with 3 left 12 is at least 12
        PloughField y = new PloughField();
        y.cart(0, 1, 999, 0, 12);
        y.work(0, 23, 0);
        y.pass(10);
        Check.due("3 left", y.told(0, 2), 3);
        y.pass(2);
        Check.due("it stays idle", y.told(0, 3), 0);
        y.work(0, 22, 0);
        y.pass(1);
        Check.due("it takes on", y.job(1, 3), 1);
    }

    private static void idleLowGoesHomeAndCharges() {
        PloughField x = new PloughField();
        x.cart(0, 1, 999, 0, 41);
        x.work(0, 63, 0);
        x.pass(15);
        x.work(0, 7, 0);
        x.pass(8);
        x.work(0, 39, 0);
        x.pass(5);
        Check.due("16 left, four below 7", x.told(0, 2), 16);
        x.work(0, 32, 0);
        x.pass(8);
        Check.due("9 left, on 32", x.told(0, 1), 32);
        Check.due("9 left", x.told(0, 2), 9);
        Check.due("idle", x.told(0, 3), 0);
        x.pass(4);
        Check.due("it's home", x.told(0, 1), 0);
        Check.due("with 5", x.told(0, 2), 5);
        Check.due("going home still", x.told(0, 3), 2);
        x.pass(1);
        Check.due("it charges at once", x.told(0, 2), 15);
        Check.due("it charges", x.told(0, 3), 3);
        x.work(0, 1, 0);
        x.pass(2);
        Check.due("it goes on", x.told(0, 2), 35);
        Check.due("it charges still", x.told(0, 3), 3);
        Check.due("the work waits", x.job(4, 3), 0);
        x.pass(1);
        Check.due("no more than full", x.told(0, 2), 41);
        Check.due("idle", x.told(0, 3), 0);
        x.pass(1);
        Check.due("taken on", x.job(4, 4), 0);
    }

    private static void homewardWaits() {
        PloughField x = lowCartAwayFromHome();
        x.set(0, 1);
        x.land(1, 0, 300);
        x.land(8, 0, 300);
        x.land(10, 0, 300);
        x.land(17, 0, 300);
        x.pass(3);
        Check.due("it waits", x.told(0, 1), 9);
        Check.due("going home", x.told(0, 3), 2);
        Check.due("nothing lost", x.told(0, 2), 2);
        x.set(0, 500);
        x.pass(1);
        Check.due("it goes", x.told(0, 1), 1);
        Check.due("one less", x.told(0, 2), 1);
    }

    private static void flatOnTheWayHome() {
        PloughField x = lowCartAwayFromHome();
        x.pass(2);
        Check.due("home with 0", x.told(0, 2), 0);
        x.pass(1);
        Check.due("it charges, with 0 too", x.told(0, 2), 10);
        Check.due("full: idle", x.told(0, 3), 0);
        PloughField y = new PloughField();
        y.cart(0, 1, 999, 0, 10);
        y.work(0, 8, 0);
        y.work(0, 15, 0);
        y.pass(10);
        Check.due("on 15 with 2", y.told(0, 2), 2);
        Check.due("on 15", y.told(0, 1), 15);
        y.pass(2);
        Check.due("on its way home with 0", y.told(0, 2), 0);
        Check.due("not flat before it would move", y.told(0, 3), 2);
        y.pass(1);
        Check.due("flat", y.told(0, 3), 5);
        Check.due("where it was", y.told(0, 1), 6);
    }

    /** A cart with FULL 10 and home 0, idle on 9 with 2 left. */
    private static PloughField lowCartAwayFromHome() {
        PloughField x = new PloughField();
        x.cart(0, 1, 999, 0, 10);
        x.work(0, 3, 0);
        x.work(0, 8, 0);
        x.pass(9);
        x.work(0, 9, 0);
        x.pass(2);
        Check.due("on 9", x.told(0, 1), 9);
        Check.due("2 left", x.told(0, 2), 2);
        Check.due("idle", x.told(0, 3), 0);
        return x;
    }

    private static void noWayReopens() {
        PloughField x = new PloughField();
        x.cart(0, 10, 999, 0, 100);
        x.work(0, 7, 0);
        x.pass(2);
        Check.due("on 2", x.told(0, 1), 2);
        x.set(0, 9);
        x.pass(1);
        Check.due("open again", x.job(0, 3), 0);
        Check.due("nobody's", x.job(0, 4), -1);
        Check.due("idle", x.told(0, 3), 0);
        Check.due("no work", x.told(0, 4), -1);
        Check.due("no charge lost", x.told(0, 2), 98);
        x.set(0, 500);
        x.pass(1);
        Check.due("taken on again", x.job(0, 3), 1);
        Check.due("and on", x.told(0, 1), 3);
    }

    private static void lookTakeGive() {
        PloughField x = new PloughField();
        x.kind(true, 1, 80, 50, 50, 50);
        x.kind(false, 1, 20, 50, 50, 50);
        x.plant(1);
        x.show(1, 1);
        x.cart(0, 1, 999, 1, 100);
        x.cart(1, 1, 999, 0, 100);
        x.cart(2, 1, 999, 1, 100);
        x.work(0, 1, 0);
        x.work(2, 1, 30);
        x.work(2, 1, 12);
        x.work(1, 1, 0);
        x.pass(1);
        Check.due("seen", x.cell(1, 6), 1);
        Check.due("as shown", x.cell(1, 9), 80);
        Check.due("given", x.cell(1, 7), 30);
        Check.due("not taken yet", x.cell(1, 3), 1);
        Check.due("the taker is there", x.told(1, 1), 1);
        x.pass(1);
        Check.due("taken by numbers before the giver", x.cell(1, 10), 2);
        Check.due("all done", x.count(6), 4);
        Check.due("nothing is left", x.cell(1, 7), 0);
        Check.due("all that stand got", x.count(16), 0);
        Check.due("done by", x.job(2, 4), 2);
        Check.due("pressed by the taker alone", x.cell(1, 2), 1);
    }

    private static void worksWithoutPlant() {
        PloughField x = new PloughField();
        x.kind(true, 1, 80, 50, 50, 50);
        x.cart(0, 1, 999, 1, 100);
        x.cart(1, 1, 999, 1, 100);
        x.cart(2, 1, 999, 1, 100);
        x.cart(3, 1, 999, 0, 100);
        x.work(0, 1, 0);
        x.work(1, 1, 0);
        x.work(2, 1, 30);
        x.work(3, 1, 0);
        x.pass(1);
        Check.due("all done", x.count(6), 4);
        Check.due("never a plant", x.cell(1, 10), 1);
        x.plant(1);
        Check.due("nothing seen", x.cell(1, 6), 0);
        Check.due("nothing given", x.cell(1, 7), 0);
    }

    private static void wheel() {
        PloughField x = new PloughField();
        x.kind(true, 1, 80, 50, 50, 50);
        x.set(1, 20);
        x.plant(1);
        x.plant(2);
        x.cart(0, 20, 999, 0, 100);
        x.cart(0, 1, 999, 0, 100);
        x.work(0, 1, 0);
        x.pass(1);
        Check.due("the light one takes it", x.job(0, 4), 1);
        x.pass(1);
        x.work(0, 2, 0);
        x.work(0, 2, 0);
        x.pass(1);
        Check.due("press on 1", x.cell(1, 2), 21);
        Check.due("above 20: dead by a wheel", x.cell(1, 10), 3);
        Check.due("press on 2", x.cell(2, 2), 1);
        x.pass(1);
        Check.due("press on 2", x.cell(2, 2), 21);
        Check.due("dead too", x.cell(2, 10), 3);
        PloughField y = new PloughField();
        y.kind(true, 1, 80, 50, 50, 50);
        y.set(1, 20);
        y.plant(1);
        y.cart(0, 20, 999, 0, 100);
        y.work(0, 1, 0);
        y.pass(1);
        Check.due("20 is borne", y.cell(1, 3), 1);
    }

    private static void stuckAndHeard() {
        PloughField x = new PloughField();
        x.cart(0, 1, 100, 0, 100);
        x.cart(1, 1, 999, 4, 100);
        x.cart(1, 1, 999, 5, 100);
        x.land(1, 0, 102);
        x.land(8, 0, 999);
        x.land(9, 0, 999);
        x.work(0, 2, 0);
        x.pass(1);
        Check.due("wet 101 is above 100", x.cell(1, 1), 101);
        Check.due("stuck", x.told(0, 3), 4);
        Check.due("on 1", x.told(0, 1), 1);
        Check.due("open again", x.job(0, 3), 0);
        Check.due("it heard", x.told(0, 101), 1);
        Check.due("far 3 heard", x.told(1, 101), 1);
        Check.due("far 4 did not", x.told(2, 101), 0);
        Check.due("map", x.told(1, 5), 1);
        Check.due("no map", x.told(2, 5), 0);
        Check.due("stuck carts", x.count(15), 1);
        Check.due("who heard goes around", x.way(1, 0, 1), 8);
        Check.due("who did not goes through", x.way(2, 0, 1), 5);
        x.pass(30);
        Check.due("stuck still, though it's dry", x.told(0, 3), 4);
        Check.due("heard still", x.told(1, 101), 1);
        PloughField y = new PloughField();
        y.cart(0, 1, 100, 0, 100);
        y.land(1, 0, 101);
        y.work(0, 1, 0);
        y.pass(2);
        Check.due("wet 100 is not above 100", y.job(0, 3), 2);
        PloughField z = new PloughField();
        z.cart(0, 1, 100, 0, 100);
        z.cart(0, 1, 100, 0, 100);
        z.set(3, 0);
        z.land(1, 0, 300);
        z.work(0, 1, 0);
        z.pass(1);
        Check.due("reach 0: itself", z.told(0, 101), 1);
        Check.due("reach 0: not the other", z.told(1, 101), 0);
    }

    private static void pullBrings() {
        PloughField x = new PloughField();
        x.cart(0, 1, 100, 0, 100);
        x.cart(0, 1, 100, 2, 100);
        x.cart(3, 1, 999, 17, 100);
        x.land(1, 0, 300);
        x.work(0, 1, 0);
        x.work(0, 1, 0);
        x.set(3, 0);
        x.pass(1);
        Check.due("both are stuck", x.count(15), 2);
        x.work(3, 1, 0);
        x.pass(1);
        Check.due("the puller goes beside it", x.told(2, 1), 9);
        Check.due("not done yet", x.job(2, 3), 1);
        x.pass(1);
        Check.due("the least is pulled", x.told(0, 1), 9);
        Check.due("and idle", x.told(0, 3), 0);
        Check.due("not the other", x.told(1, 3), 4);
        Check.due("its charge is as it was", x.told(0, 2), 99);
        Check.due("its map is as it was", x.told(0, 101), 1);
        Check.due("pressed by the puller alone", x.cell(9, 2), 1);
        Check.due("done", x.job(2, 3), 2);
    }

    private static void pullFromTheSameCell() {
        PloughField x = new PloughField();
        x.cart(3, 1, 999, 9, 100);
        x.work(3, 9, 0);
        x.pass(1);
        Check.due("it goes to the least of four", x.told(0, 1), 1);
        Check.due("not done", x.job(0, 3), 1);
        x.pass(1);
        Check.due("done from there", x.job(0, 3), 2);
        // the cheaper goal is gone to, not the nearest number
        PloughField y = new PloughField();
        y.cart(3, 1, 999, 9, 100);
        y.land(1, 0, 900);
        y.land(8, 0, 900);
        y.land(10, 0, 900);
        y.work(3, 9, 0);
        y.pass(1);
        Check.due("17 costs least", y.told(0, 1), 17);
    }

    private static void pullByAnotherCart() {
        // 1 and 10 are wet, so of the cells beside 19 cart 1 comes to 18 for the least
        PloughField x = new PloughField();
        x.cart(3, 50, 999, 63, 100);
        x.cart(3, 1, 999, 0, 100);
        x.land(1, 0, 900);
        x.land(10, 0, 900);
        x.land(2, 0, 900);
        x.set(0, 40);
        x.land(11, 0, 900);
        x.land(18, 0, 50);
        x.work(3, 19, 0);
        x.pass(1);
        Check.due("taken on by 1", x.job(0, 4), 1);
        Check.due("by 8, as 1 is wet", x.told(1, 1), 8);
        x.pass(3);
        Check.due("on 18", x.told(1, 1), 18);
        x.pass(1);
        Check.due("done from there", x.job(0, 3), 2);
    }

    private static void theLastWork() {
        PloughField x = new PloughField();
        for (int i = 0; i < 59; i++) {
            x.work(1, 0, 0);
        }
        x.work(0, 5, 0);
        x.cart(0, 1, 999, 0, 100);
        x.pass(1);
        Check.due("taken on", x.job(59, 3), 1);
        Check.due("by 0", x.job(59, 4), 0);
        x.land(2, 0, 999);
        x.land(8, 0, 999);
        x.land(9, 0, 999);
        x.set(0, 1);
        x.pass(1);
        Check.due("open again", x.job(59, 3), 0);
        Check.due("nobody's", x.job(59, 4), -1);
    }

    private static void promise17Told() {
        PloughField x = new PloughField();
        x.cart(2, 1, 999, 9, 100);
        int[] none = {-1, 6, 99, 164, Integer.MIN_VALUE, Integer.MAX_VALUE};
        for (int what : none) {
            Check.due("told none such " + what, x.told(0, what), -2);
        }
        Check.due("told 100", x.told(0, 100), 0);
        Check.due("told 163", x.told(0, 163), 0);
        Check.due("no such cart", x.told(1, 0), -2);
        Check.due("no such cart", x.told(-1, 0), -2);
        Check.due("kind", x.told(0, 0), 2);
        Check.due("no work", x.told(0, 4), -1);
    }

    private static void promise18Job() {
        PloughField x = new PloughField();
        x.work(2, 9, 33);
        int[] want = {2, 9, 33, 0, -1, -2};
        for (int what = 0; what < want.length; what++) {
            Check.due("job " + what, x.job(0, what), want[what]);
        }
        Check.due("job -1", x.job(0, -1), -2);
        Check.due("no such work", x.job(1, 0), -2);
        Check.due("no such work", x.job(-1, 0), -2);
        x.pass(5);
        Check.due("open without carts", x.job(0, 3), 0);
    }

    private static void promise20Water() {
        PloughField x = new PloughField();
        x.land(0, 0, 500);
        x.land(63, 0, 1);
        Check.due("all", x.water(0), 501);
        x.pass(2);
        Check.due("all", x.water(0), 498);
        Check.due("lost", x.water(2), 3);
        Check.due("fallen", x.water(1), 0);
        Check.due("none such", x.water(3), -1);
        Check.due("none such", x.water(-1), -1);
        // the most that can fall: 30 rains of 99 in each hour
        for (int i = 0; i < 30; i++) {
            x.rain(3, 719, 99);
        }
        x.pass(200);
        x.pass(200);
        x.pass(200);
        x.pass(117);
        Check.due("fallen", x.water(1), 717L * 30 * 99 * 64);
        Check.due("no water is lost but by (c)", x.water(0) + x.water(2), 501 + 717L * 30 * 99 * 64);
    }
}
