/** The edges of plants, kinds, shares, marks, illness and lots: part 3 of the document and promises 9 to 13, 15, 16. */
public final class EdgePlantTest {
    public static void main(String[] args) {
        plantNeedsAKind();
        plantWhereNoneStands();
        plantAfterEachWhy();
        whyIsOfTheLastPlant();
        priorLeastAndMost();
        oneKindHasAll();
        fiveKindsOfTheMostPrior();
        laterKindsHaveNone();
        oddsOfMarksLeastAndMost();
        sharesComeTo0AndStay();
        hundredthsAreCut();
        lookTakesMarks0And15();
        shownIs0AtFirstAndStays();
        illAndNoMore();
        illOnesAreGoneWithTheirPlants();
        cellEdges();
        cellOfABareOne();
        shareEdges();
        lotsOfOne();
        lotsComeRound();
        lotsToldBetween();
        lotsToldBeforeTheLastIsTaken();
        noLots();
        lotsOfThoseThatStand();
        newlyIllOnesWait();
        Check.end();
    }

    private static PloughField withPlants(int... cells) {
        PloughField x = new PloughField();
        x.kind(true, 1, 80, 50, 50, 50);
        for (int cell : cells) {
            x.plant(cell);
        }
        return x;
    }

    private static void plantNeedsAKind() {
        PloughField x = new PloughField();
        Check.due("no kind", x.plant(5), false);
        Check.due("nothing stands", x.cell(5, 3), 0);
        Check.due("none was ever there", x.cell(5, 10), 1);
        x.kind(false, 0, 50, 50, 50, 50);
        Check.due("a refused kind is none", x.plant(5), false);
        x.kind(false, 1, 50, 50, 50, 50);
        Check.due("a kind", x.plant(5), true);
    }

    private static void plantWhereNoneStands() {
        PloughField x = withPlants(0, 63);
        x.look(0, 1);
        x.pass(24);
        Check.due("one stands", x.plant(0), false);
        Check.due("it's as it was: seen", x.cell(0, 6), 1);
        Check.due("it's as it was: size", x.cell(0, 4), 1);
        Check.due("plants", x.count(9), 2);
        for (int cell = 1; cell < 63; cell++) {
            Check.due("plant " + cell, x.plant(cell), true);
        }
        Check.due("64 plants", x.count(9), 64);
        Check.due("no more", x.plant(33), false);
    }

    /** Plants on 0, 1 and 2, of which the first is taken, the second dies by a wheel, the third is drowned. */
    private static PloughField bared() {
        PloughField x = withPlants(0, 1, 2, 3);
        for (int cell = 0; cell < 3; cell++) {
            x.ill(cell, true);
            x.look(cell, 3);
        }
        x.set(1, 1);
        x.cart(1, 1, 999, 0, 100);
        x.cart(0, 2, 999, 9, 100);
        x.work(1, 0, 0);
        x.work(0, 1, 0);
        x.pass(23);
        x.land(2, 0, 999);
        x.pass(1);
        return x;
    }

    private static void plantAfterEachWhy() {
        PloughField x = bared();
        int[] why = {2, 3, 4, 0, 1};
        for (int cell = 0; cell < why.length; cell++) {
            Check.due("why " + cell, x.cell(cell, 10), why[cell]);
        }
        for (int cell = 0; cell < 3; cell++) {
            Check.due("nobody is looked at on " + cell, x.look(cell, 1), false);
            Check.due("nor ill", x.ill(cell, true), false);
            Check.due("nor no more ill", x.ill(cell, false), false);
            Check.due("no share", x.share(cell, 0), -1);
            Check.due("plant", x.plant(cell), true);
            int[] whats = {3, 4, 5, 6, 7, 9, 10};
            int[] want = {1, 0, 0, 0, 0, 100, 0};
            for (int i = 0; i < whats.length; i++) {
                Check.due("new on " + cell + ": " + whats[i], x.cell(cell, whats[i]), want[i]);
            }
        }
        Check.due("the next to it", x.plant(3), false);
    }

    private static void whyIsOfTheLastPlant() {
        PloughField x = bared();
        x.cart(1, 1, 999, 2, 100);
        x.work(1, 2, 0);
        x.pass(3);
        Check.due("taking where none stands changes nothing", x.cell(2, 10), 4);
        Check.due("though it's done", x.job(2, 3), 2);
        x.plant(2);
        x.work(1, 2, 0);
        x.pass(3);
        Check.due("the last one was taken", x.cell(2, 10), 2);
        x.pass(18);
        Check.due("wet does nothing where none stands", x.cell(2, 10), 2);
    }

    private static void priorLeastAndMost() {
        PloughField x = new PloughField();
        x.kind(true, 1, 50, 50, 50, 50);
        x.kind(false, 100, 50, 50, 50, 50);
        x.plant(0);
        Check.due("1 of 101", x.share(0, 0), 9900990);
        Check.due("100 of 101", x.share(0, 1), 990099009);
    }

    private static void oneKindHasAll() {
        for (int prior = 1; prior <= 100; prior += 99) {
            PloughField x = new PloughField();
            x.kind(true, prior, 1, 99, 1, 99);
            x.plant(0);
            Check.due("all", x.share(0, 0), 1000000000);
            Check.due("100 hundredths", x.cell(0, 9), 100);
            for (int marks = 0; marks <= 15; marks++) {
                x.look(0, marks);
                Check.due("all still", x.share(0, 0), 1000000000);
            }
            Check.due("seen", x.cell(0, 6), 16);
        }
    }

    private static void fiveKindsOfTheMostPrior() {
        PloughField x = new PloughField();
        for (int i = 0; i < 5; i++) {
            x.kind(i == 4, 100, 50, 50, 50, 50);
        }
        x.plant(63);
        for (int i = 0; i < 5; i++) {
            Check.due("a fifth", x.share(63, i), 200000000);
        }
        Check.due("no sixth", x.share(63, 5), -1);
        Check.due("20 hundredths", x.cell(63, 9), 20);
    }

    private static void laterKindsHaveNone() {
        PloughField x = withPlants(0);
        Check.due("not told yet", x.share(0, 1), -1);
        x.kind(true, 100, 99, 99, 99, 99);
        Check.due("told later", x.share(0, 1), 0);
        x.look(0, 15);
        Check.due("still none", x.share(0, 1), 0);
        Check.due("the first has all", x.share(0, 0), 1000000000);
        x.plant(1);
        Check.due("a later plant: 1 of 101", x.share(1, 0), 9900990);
        Check.due("a later plant: 100 of 101", x.share(1, 1), 990099009);
    }

    private static void oddsOfMarksLeastAndMost() {
        // 5*10^8 by 1 hundredth four times is 5; by 99 hundredths 495000000, 490050000, 485149500, 480298005
        PloughField x = new PloughField();
        x.kind(true, 5, 1, 1, 1, 1);
        x.kind(false, 5, 99, 99, 99, 99);
        x.plant(0);
        x.plant(1);
        x.look(0, 15);
        Check.due("5 of 480298010", x.share(0, 0), 10);
        Check.due("480298005 of 480298010", x.share(0, 1), 999999989);
        x.look(1, 0);
        Check.due("the other way round", x.share(1, 0), 999999989);
        Check.due("the other way round", x.share(1, 1), 10);
    }

    private static void sharesComeTo0AndStay() {
        PloughField x = new PloughField();
        x.kind(true, 5, 1, 1, 1, 1);
        x.kind(false, 5, 99, 99, 99, 99);
        x.plant(0);
        x.look(0, 15);
        x.look(0, 15);
        Check.due("cut to 0", x.share(0, 0), 0);
        Check.due("the other has all", x.share(0, 1), 1000000000);
        for (int i = 0; i < 5; i++) {
            x.look(0, 0);
            Check.due("0 stays", x.share(0, 0), 0);
            Check.due("all stays", x.share(0, 1), 1000000000);
        }
        Check.due("seen all the same", x.cell(0, 6), 7);
    }

    private static void hundredthsAreCut() {
        int[][] priors = {{1, 99, 1}, {1, 100, 0}, {99, 1, 99}, {100, 1, 99}, {1, 1, 50}, {1, 2, 33}, {2, 1, 66}};
        for (int[] p : priors) {
            PloughField x = new PloughField();
            x.kind(true, p[0], 50, 50, 50, 50);
            x.kind(false, p[1], 50, 50, 50, 50);
            x.plant(0);
            Check.due("hundredths of " + p[0] + " and " + p[1], x.cell(0, 9), p[2]);
        }
        // three thirds, each cut: 999999999 of 10^9
        PloughField x = new PloughField();
        for (int i = 0; i < 3; i++) {
            x.kind(true, 7, 50, 50, 50, 50);
        }
        x.plant(0);
        Check.due("all are weeds, cut", x.cell(0, 9), 99);
    }

    private static void lookTakesMarks0And15() {
        PloughField x = new PloughField();
        x.kind(true, 1, 60, 60, 60, 60);
        x.kind(false, 1, 40, 40, 40, 40);
        x.plant(0);
        x.plant(1);
        Check.due("marks 0", x.look(0, 0), true);
        Check.due("marks 15", x.look(1, 15), true);
        // 0.4^4 is 256, 0.6^4 is 1296
        Check.due("without marks", x.share(0, 0), 256000000000L / 1552);
        Check.due("with all marks", x.share(1, 0), 1296000000000L / 1552);
        Check.due("marks -1", x.look(0, -1), false);
        Check.due("marks 16", x.look(0, 16), false);
        Check.due("seen once", x.cell(0, 6), 1);
    }

    private static void shownIs0AtFirstAndStays() {
        PloughField x = withPlants(0);
        x.kind(false, 1, 20, 50, 50, 50);
        x.plant(1);
        x.cart(0, 1, 999, 0, 100);
        x.work(0, 0, 0);
        x.pass(1);
        Check.due("0 at first", x.cell(0, 8), 0);
        Check.due("seen", x.cell(0, 6), 1);
        Check.due("show 15", x.show(1, 15), true);
        Check.due("show 16", x.show(1, 16), false);
        Check.due("show -1", x.show(1, -1), false);
        Check.due("15", x.cell(1, 8), 15);
        Check.due("showing isn't seeing", x.cell(1, 6), 0);
        x.work(0, 1, 0);
        x.pass(2);
        Check.due("seen as shown: 4 of 5", x.cell(1, 9), 80);
        x.cart(1, 1, 999, 1, 100);
        x.work(1, 1, 0);
        x.pass(1);
        Check.due("taken", x.cell(1, 10), 2);
        Check.due("15 still", x.cell(1, 8), 15);
        x.plant(1);
        Check.due("15 still", x.cell(1, 8), 15);
        Check.due("show 0", x.show(1, 0), true);
        Check.due("0", x.cell(1, 8), 0);
    }

    private static void illAndNoMore() {
        PloughField x = withPlants(0, 63);
        for (int cell = 0; cell < 64; cell += 63) {
            Check.due("it's not ill already", x.ill(cell, false), false);
            Check.due("ill", x.ill(cell, true), true);
            Check.due("it's ill already", x.ill(cell, true), false);
            Check.due("1", x.cell(cell, 5), 1);
            Check.due("ill ones", x.count(10), 1);
            Check.due("no more", x.ill(cell, false), true);
            Check.due("0", x.cell(cell, 5), 0);
            Check.due("it's not ill already", x.ill(cell, false), false);
            Check.due("ill ones", x.count(10), 0);
        }
        Check.due("none stands", x.ill(1, true), false);
        Check.due("none stands", x.ill(1, false), false);
        Check.due("told", x.count(1), 7);
    }

    private static void illOnesAreGoneWithTheirPlants() {
        PloughField x = bared();
        Check.due("no ill one", x.count(10), 0);
        Check.due("one plant", x.count(9), 1);
        Check.due("no spot", x.spot(64, 0), -1);
        Check.due("no pull", x.pull(1, 1, 0), -1);
    }

    private static void cellEdges() {
        PloughField x = new PloughField();
        x.land(0, 98, 997);
        x.land(63, 99, 999);
        int[] whats = {-1, 0, 10, 11, Integer.MIN_VALUE, Integer.MAX_VALUE};
        int[] first = {-1, 98, 1, -1, -1, -1};
        int[] last = {-1, 99, 1, -1, -1, -1};
        for (int i = 0; i < whats.length; i++) {
            Check.due("of cell -1: " + whats[i], x.cell(-1, whats[i]), -1);
            Check.due("of cell 0: " + whats[i], x.cell(0, whats[i]), first[i]);
            Check.due("of cell 63: " + whats[i], x.cell(63, whats[i]), last[i]);
            Check.due("of cell 64: " + whats[i], x.cell(64, whats[i]), -1);
        }
    }

    private static void cellOfABareOne() {
        PloughField x = bared();
        for (int cell = 0; cell < 3; cell++) {
            for (int what = 3; what <= 9; what++) {
                Check.due("bare " + cell + ": " + what, x.cell(cell, what), 0);
            }
        }
    }

    private static void shareEdges() {
        PloughField x = withPlants(0, 63);
        int[] cells = {-1, 0, 1, 63, 64, Integer.MIN_VALUE, Integer.MAX_VALUE};
        int[] want = {-1, 1000000000, -1, 1000000000, -1, -1, -1};
        for (int i = 0; i < cells.length; i++) {
            Check.due("kind -1 on " + cells[i], x.share(cells[i], -1), -1);
            Check.due("kind 0 on " + cells[i], x.share(cells[i], 0), want[i]);
            Check.due("kind 1 on " + cells[i], x.share(cells[i], 1), -1);
            Check.due("kind 5 on " + cells[i], x.share(cells[i], 5), -1);
        }
    }

    private static void lotsOfOne() {
        PloughField x = withPlants(0, 1, 8);
        x.ill(0, true);
        x.lot(29);
        x.pass(24);
        Check.due("the one lot for both: 1", x.cell(1, 5), 1);
        Check.due("the one lot for both: 8", x.cell(8, 5), 1);
    }

    private static void lotsComeRound() {
        // 9 is ill; 1, 8, 10 and 17 take four lots a day, of six
        PloughField x = withPlants(1, 8, 9, 10, 17);
        x.ill(9, true);
        int[] lots = {90, 91, 92, 93, 94, 35};
        for (int lot : lots) {
            x.lot(lot);
        }
        x.pass(24);
        Check.due("90 to 93", x.count(10), 1);
        x.pass(24);
        Check.due("94, 35, 90, 91: 30 is less than all", x.count(10), 1);
        x.set(2, 36);
        x.pass(24);
        Check.due("92, 93, 94, 35: the fourth", x.cell(17, 5), 1);
        Check.due("and no other", x.count(10), 2);
        x.set(2, 91);
        x.pass(24);
        Check.due("90 for 1, after the last the first", x.cell(1, 5), 1);
        Check.due("91 for 8", x.cell(8, 5), 0);
        Check.due("92 for 10", x.cell(10, 5), 0);
    }

    private static void lotsToldBetween() {
        // the last of two is taken: the first is next, then the second, then the third
        PloughField x = withPlants(0, 1, 8);
        x.ill(0, true);
        x.lot(90);
        x.lot(91);
        x.pass(24);
        x.lot(0);
        x.pass(24);
        Check.due("90 and 91 again", x.count(10), 1);
        x.pass(24);
        Check.due("0 for 1", x.cell(1, 5), 1);
        Check.due("90 for 8", x.cell(8, 5), 0);
    }

    private static void lotsToldBeforeTheLastIsTaken() {
        // one of two is taken, a third is told: the second is next, then the third
        PloughField x = withPlants(0, 1);
        x.ill(0, true);
        x.lot(90);
        x.lot(91);
        x.pass(24);
        x.lot(0);
        x.pass(24);
        Check.due("91", x.cell(1, 5), 0);
        x.pass(24);
        Check.due("0", x.cell(1, 5), 1);
    }

    private static void noLots() {
        PloughField x = withPlants(0, 1);
        x.ill(0, true);
        x.set(2, 100);
        x.pass(72);
        Check.due("nothing falls ill", x.count(10), 1);
        x.lot(99);
        x.pass(24);
        Check.due("with the first lot", x.count(10), 2);
    }

    private static void lotsOfThoseThatStand() {
        // 8 is drowned and takes no lot, 0 is drowned and is nobody's ill one: the first lot is for 62
        PloughField x = withPlants(0, 1, 8, 62, 63);
        x.ill(0, true);
        x.ill(63, true);
        x.lot(0);
        x.lot(99);
        x.pass(23);
        x.land(0, 0, 700);
        x.land(8, 0, 700);
        x.pass(1);
        Check.due("0 is drowned", x.cell(0, 10), 4);
        Check.due("1 isn't ill", x.cell(1, 5), 0);
        Check.due("62 is", x.cell(62, 5), 1);
    }

    private static void newlyIllOnesWait() {
        // 1 falls ill by its first lot; 2, behind it, has no ill one beside it on that day and takes none
        PloughField x = withPlants(0, 1, 2, 62, 63);
        x.ill(0, true);
        x.ill(63, true);
        x.lot(0);
        x.lot(10);
        x.lot(99);
        x.pass(24);
        Check.due("1", x.cell(1, 5), 1);
        Check.due("2", x.cell(2, 5), 0);
        Check.due("62 took the second", x.cell(62, 5), 1);
        x.pass(24);
        Check.due("2 took the third", x.cell(2, 5), 0);
        x.pass(24);
        Check.due("2 took the first", x.cell(2, 5), 1);
    }
}
