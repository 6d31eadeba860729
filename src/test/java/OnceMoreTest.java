/**
 * The document once more: sentences that the other tests by hand left to the random runs of ModelTest, and one
 * (the least next cell of a pull) that those left out too, each with answers worked out by hand.
 */
public final class OnceMoreTest {
    public static void main(String[] args) {
        flowIsAtOnceInAllDirections();
        flatAndStuckOnesHear();
        thoseThatChargeHear();
        thoseThatGoHomeHear();
        heardAsTheyAreThen();
        theWayHomePresses();
        aBareCellHasNoSize();
        pullGoesOnWithTheLeastCell();
        oneLotForEachIllOneBeside();
        sharesAreCutMarkByMark();
        weedsAreAddedBeforeTheyAreCut();
        onlyWhatIsNamedIsLeftOut();
        playedAgainFromTheFirstReach();
        playedAgainWithoutThoseToCome();
        Check.end();
    }

    private static void flowIsAtOnceInAllDirections() {
        // from, over and to, each lower than the one before: what comes in this hour doesn't go on in it
        int[][] rows = {{10, 9, 8}, {8, 9, 10}, {1, 9, 17}, {17, 9, 1}, {61, 62, 63}, {47, 55, 63}};
        for (int[] row : rows) {
            PloughField x = new PloughField();
            for (int cell = 0; cell < 64; cell++) {
                x.land(cell, 50, 0);
            }
            x.land(row[0], 20, 205);
            x.land(row[1], 10, 103);
            x.land(row[2], 0, 100);
            x.pass(1);
            Check.due("half of 105 goes from " + row[0], x.cell(row[0], 1), 205 - 52 - 1);
            Check.due("half of 3 goes on from " + row[1], x.cell(row[1], 1), 103 + 52 - 1 - 1);
            Check.due("1 comes to " + row[2], x.cell(row[2], 1), 100 + 1 - 1);
        }
    }

    private static void flatAndStuckOnesHear() {
        PloughField x = new PloughField();
        x.cart(0, 1, 999, 0, 10);
        x.work(0, 39, 0);
        x.pass(11);
        Check.due("flat after ten cells", x.told(0, 3), 5);
        Check.due("on 31, by the least cells", x.told(0, 1), 31);
        x.cart(1, 1, 50, 29, 100);
        x.land(30, 0, 300);
        x.work(1, 30, 0);
        x.pass(1);
        Check.due("stuck on 30", x.told(1, 3), 4);
        Check.due("a flat one hears", x.told(0, 130), 1);
        Check.due("one on its map", x.told(0, 5), 1);
        x.cart(2, 1, 50, 21, 100);
        x.land(22, 0, 300);
        x.work(2, 22, 1);
        x.pass(1);
        Check.due("stuck on 22", x.told(2, 1), 22);
        Check.due("a stuck one hears", x.told(1, 122), 1);
        Check.due("two on its map", x.told(1, 5), 2);
        Check.due("the flat one has two", x.told(0, 5), 2);
        Check.due("who came later didn't hear of the first", x.told(2, 130), 0);
        Check.due("its own is on its map", x.told(2, 5), 1);
        x.charge(0);
        Check.due("charged, it has heard still", x.told(0, 5), 2);
    }

    private static void thoseThatChargeHear() {
        // six cells out, five back, then with 3 of 14 one cell home
        PloughField x = new PloughField();
        x.cart(0, 1, 999, 0, 14);
        x.work(0, 6, 0);
        x.work(0, 1, 0);
        x.pass(13);
        Check.due("both are done", x.count(6), 2);
        Check.due("3 are left", x.told(0, 2), 3);
        x.pass(1);
        Check.due("it goes home", x.told(0, 3), 2);
        Check.due("it's there", x.told(0, 1), 0);
        x.cart(1, 1, 50, 2, 100);
        x.land(1, 0, 300);
        x.work(1, 1, 0);
        x.pass(1);
        Check.due("it charges", x.told(0, 3), 3);
        Check.due("12 of 14", x.told(0, 2), 12);
        Check.due("it hears", x.told(0, 101), 1);
        x.pass(1);
        Check.due("full", x.told(0, 2), 14);
        Check.due("and idle", x.told(0, 3), 0);
    }

    private static void thoseThatGoHomeHear() {
        PloughField x = new PloughField();
        x.cart(0, 1, 999, 0, 10);
        x.work(0, 15, 0);
        x.pass(10);
        Check.due("with 2 of 10 it goes home", x.told(0, 3), 2);
        Check.due("by 7", x.told(0, 1), 7);
        x.cart(1, 1, 50, 22, 100);
        x.land(23, 0, 300);
        x.work(1, 23, 0);
        x.pass(1);
        Check.due("on 6, homeward", x.told(0, 1) * 10 + x.told(0, 3), 62);
        Check.due("it hears", x.told(0, 123), 1);
    }

    private static void heardAsTheyAreThen() {
        // cart 1 sinks on 5; cart 0 has moved before it, carts 2 and 3 move after it
        PloughField x = new PloughField();
        x.set(3, 1);
        x.cart(0, 1, 999, 7, 100);
        x.cart(1, 1, 50, 13, 100);
        x.cart(2, 1, 999, 13, 100);
        x.cart(3, 1, 999, 12, 100);
        x.land(5, 0, 300);
        x.work(0, 6, 0);
        x.work(1, 5, 0);
        x.work(2, 61, 5);
        x.work(3, 3, 0);
        x.pass(1);
        Check.due("0 came to 6", x.told(0, 1), 6);
        Check.due("1 is stuck on 5", x.told(1, 1) * 10 + x.told(1, 3), 54);
        Check.due("2 went to 21", x.told(2, 1), 21);
        Check.due("3 came to 4", x.told(3, 1), 4);
        Check.due("0 was beside it then", x.told(0, 105), 1);
        Check.due("1 hears itself", x.told(1, 105), 1);
        Check.due("2 was beside it then", x.told(2, 105), 1);
        Check.due("3 wasn't", x.told(3, 105), 0);
    }

    private static void theWayHomePresses() {
        PloughField x = new PloughField();
        x.kind(true, 1, 50, 50, 50, 50);
        x.cart(0, 50, 999, 0, 10);
        x.work(0, 15, 0);
        x.pass(9);
        Check.due("7 was entered once", x.cell(7, 2), 50);
        Check.due("2 are left", x.told(0, 2), 2);
        x.plant(7);
        x.set(1, 99);
        x.pass(1);
        Check.due("homeward", x.told(0, 3), 2);
        Check.due("by 7", x.told(0, 1), 7);
        Check.due("it's pressed", x.cell(7, 2), 100);
        Check.due("by a wheel", x.cell(7, 10), 3);
    }

    private static void aBareCellHasNoSize() {
        PloughField x = new PloughField();
        x.kind(true, 1, 50, 50, 50, 50);
        x.plant(9);
        x.pass(48);
        Check.due("grown", x.cell(9, 4), 2);
        x.cart(1, 1, 999, 9, 100);
        x.work(1, 9, 0);
        x.pass(1);
        Check.due("taken", x.cell(9, 10), 2);
        Check.due("no size", x.cell(9, 4), 0);
        x.plant(9);
        Check.due("a new one is small", x.cell(9, 4), 0);
        x.pass(23);
        Check.due("and grows", x.cell(9, 4), 1);
    }

    private static void pullGoesOnWithTheLeastCell() {
        // to 27 from 9: by 10 seven cells to 19 or 28, by 8 seven to 26 or 35; 19 is the least, but 8 comes first
        PloughField x = new PloughField();
        x.set(0, 100);
        for (int shut : new int[] {1, 11, 17, 18, 25}) {
            x.land(shut, 0, 300);
        }
        x.cart(3, 50, 999, 9, 100);
        int[] cells = {19, 26, 28, 35};
        int[] first = {10, 8, 10, 8};
        for (int i = 0; i < cells.length; i++) {
            Check.due("seven cells to " + cells[i], x.way(0, cells[i], 1), 7);
            Check.due("350 to " + cells[i], x.way(0, cells[i], 0), 350);
            Check.due("first to " + cells[i], x.way(0, cells[i], 2), first[i]);
        }
        x.work(3, 27, 0);
        x.pass(1);
        Check.due("8 is the least next cell", x.told(0, 1), 8);
        x.pass(6);
        Check.due("26 is less than 35", x.told(0, 1), 26);
        x.pass(1);
        Check.due("done", x.job(0, 3), 2);
    }

    private static void oneLotForEachIllOneBeside() {
        // each corner with its two cells beside it, of which one or both are ill: the LOT 0 is left for the second day
        int[][] corners = {{0, 1, 8}, {7, 6, 15}, {56, 48, 57}, {63, 55, 62}};
        for (int[] corner : corners) {
            for (int ill = 1; ill <= 2; ill++) {
                PloughField x = new PloughField();
                x.kind(true, 1, 50, 50, 50, 50);
                for (int i = 0; i < 3; i++) {
                    x.plant(corner[i]);
                }
                for (int i = 1; i <= ill; i++) {
                    x.ill(corner[i], true);
                    x.lot(99);
                }
                x.lot(0);
                x.pass(24);
                Check.due(ill + " taken for " + corner[0], x.cell(corner[0], 5), 0);
                x.pass(24);
                Check.due("the next is 0 for " + corner[0], x.cell(corner[0], 5), 1);
            }
        }
    }

    private static void sharesAreCutMarkByMark() {
        PloughField x = new PloughField();
        x.kind(true, 3, 1, 99, 1, 99);
        x.kind(false, 4, 3, 3, 3, 3);
        x.plant(0);
        Check.due("3 of 7", x.share(0, 0), 428571428);
        Check.due("4 of 7", x.share(0, 1), 571428571);
        x.look(0, 15);
        // 4285714, 4242856, 42428, 42003 (cut once it would be 42004), and 17142857, 514285, 15428, 462
        Check.due("42003 of 42465", x.share(0, 0), 989120452);
        Check.due("462 of 42465", x.share(0, 1), 10879547);
    }

    private static void weedsAreAddedBeforeTheyAreCut() {
        PloughField x = new PloughField();
        x.kind(true, 1, 50, 50, 50, 50);
        x.kind(true, 1, 50, 50, 50, 50);
        x.kind(false, 6, 50, 50, 50, 50);
        x.plant(0);
        Check.due("12 and a half", x.share(0, 1), 125000000);
        Check.due("twice 12 and a half", x.cell(0, 9), 25);
        Check.rules(x, "take if weed = 25;");
        Check.due("so say the rules", x.act(0, 0), 0);
    }

    private static void onlyWhatIsNamedIsLeftOut() {
        // rain 0, cart 0 and work 0 bear one number; cart 1 does work 1
        PloughField x = new PloughField();
        x.rain(1, 1, 50);
        x.cart(0, 3, 999, 0, 100);
        x.cart(1, 5, 999, 16, 100);
        x.work(0, 1, 0);
        x.work(1, 17, 0);
        x.pass(2);
        int[] wet = {0, 48, 48};
        int[] first = {3, 0, 0};
        for (int without = 0; without <= 2; without++) {
            Check.due("wet without " + without, x.again(without, 0, 9, 1), wet[without]);
            Check.due("pressed by cart 0 without " + without, x.again(without, 0, 1, 2), first[without]);
            Check.due("pressed by cart 1 without " + without, x.again(without, 0, 17, 2), 5);
        }
        Check.due("without cart 1", x.again(1, 1, 1, 2) * 10 + x.again(1, 1, 17, 2), 30);
        Check.due("without work 1", x.again(2, 1, 1, 2) * 10 + x.again(2, 1, 17, 2), 30);
        // cart 0 has the work that is left when work 0 never opens
        PloughField y = new PloughField();
        y.cart(0, 3, 999, 0, 100);
        y.work(0, 8, 0);
        y.work(0, 1, 0);
        y.pass(1);
        Check.due("it goes to 8", y.cell(8, 2) * 10 + y.cell(1, 2), 30);
        Check.due("without work 0 not to 8", y.again(2, 0, 8, 2), 0);
        Check.due("but to 1", y.again(2, 0, 1, 2), 3);
    }

    private static void playedAgainFromTheFirstReach() {
        // 14 is told after cart 0 sank on 1: cart 1 hasn't heard of it and goes over it, each time it's played
        PloughField x = new PloughField();
        x.rain(700, 700, 1);
        x.rain(701, 701, 1);
        x.cart(0, 1, 50, 0, 100);
        x.cart(1, 1, 999, 5, 100);
        x.land(1, 0, 300);
        x.work(0, 1, 0);
        x.pass(1);
        x.set(3, 14);
        x.land(1, 0, 0);
        x.work(1, 0, 0);
        x.pass(6);
        Check.due("3 by cart 0 and 1 by cart 1", x.cell(1, 2), 4);
        Check.due("without rain 0", x.again(0, 0, 1, 2), 4);
        Check.due("without rain 1", x.again(0, 1, 1, 2), 4);
        Check.due("without rain 0 once more", x.again(0, 0, 1, 2), 4);
    }

    private static void playedAgainWithoutThoseToCome() {
        // the looker comes in hour 5: each time it's played it finds the plant of hour 3
        PloughField x = new PloughField();
        x.kind(true, 1, 50, 50, 50, 50);
        x.rain(700, 700, 1);
        x.rain(701, 701, 1);
        x.work(0, 9, 0);
        x.work(1, 63, 0);
        x.pass(3);
        x.plant(9);
        x.pass(2);
        x.cart(1, 1, 999, 0, 100);
        x.cart(0, 1, 999, 9, 100);
        x.pass(1);
        Check.due("seen", x.cell(9, 6), 1);
        Check.due("cart 0 is under way", x.told(0, 3), 1);
        Check.due("without rain 0", x.again(0, 0, 9, 6), 1);
        Check.due("without rain 1", x.again(0, 1, 9, 6), 1);
        Check.due("without cart 1", x.again(1, 1, 9, 6), 0);
        Check.due("without cart 0", x.again(1, 0, 9, 6), 1);
        // cart 1 comes after cart 0 sank on 1: it never hears of it and goes over it, each time it's played
        PloughField y = new PloughField();
        y.rain(700, 700, 1);
        y.rain(701, 701, 1);
        y.set(3, 14);
        y.cart(0, 1, 50, 0, 100);
        y.land(1, 0, 300);
        y.work(0, 1, 0);
        y.pass(1);
        y.land(1, 0, 0);
        y.cart(1, 1, 999, 5, 100);
        y.work(1, 0, 0);
        y.pass(6);
        Check.due("3 by cart 0 and 1 by cart 1", y.cell(1, 2), 4);
        Check.due("without rain 0", y.again(0, 0, 1, 2), 4);
        Check.due("without rain 1", y.again(0, 1, 1, 2), 4);
    }
}
