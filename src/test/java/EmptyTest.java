/** The empty object, promise 1: what every call answers, and what it takes, before anything was told. */
public final class EmptyTest {
    private static final int NO_ANSWER = -2000000000;

    public static void main(String[] args) {
        countsAre0();
        cellsAre0();
        settingsAreAsAtFirst();
        noCarts();
        noWorks();
        noPlantsOrKinds();
        noRules();
        noStrips();
        noneToLeaveOut();
        hoursGoByWithNothing();
        objectsAreApart();
        fiveHundredAndTwelveCalls();
        Check.end();
    }

    private static void countsAre0() {
        PloughField x = new PloughField();
        for (int what = 0; what <= 16; what++) {
            Check.due("count " + what, x.count(what), 0);
        }
        Check.due("count -1", x.count(-1), -1);
        Check.due("count 17", x.count(17), -1);
        for (int what = 0; what <= 2; what++) {
            Check.due("water " + what, x.water(what), 0);
        }
        Check.due("NONE", PloughField.NONE, -1);
    }

    private static void cellsAre0() {
        for (int cell = 0; cell < 64; cell++) {
            PloughField x = new PloughField();
            for (int what = 0; what <= 10; what++) {
                Check.due("cell " + cell + " " + what, x.cell(cell, what), what == 10 ? 1 : 0);
            }
            for (int kind = -1; kind <= 5; kind++) {
                Check.due("share " + cell + " " + kind, x.share(cell, kind), -1);
            }
        }
    }

    private static void settingsAreAsAtFirst() {
        // told again as they are at first, nothing changes: LIMIT 500, BEARS 200, ODDS 30, REACH 3
        PloughField one = new PloughField();
        PloughField other = new PloughField();
        int[] first = {500, 200, 30, 3};
        for (int what = 0; what < 4; what++) {
            Check.due("set " + what, other.set(what, first[what]), true);
        }
        PloughField[] both = {one, other};
        for (PloughField x : both) {
            x.kind(true, 1, 50, 50, 50, 50);
            x.plant(1);
            x.plant(2);
            x.plant(10);
            x.ill(2, true);
            x.lot(30);
            x.lot(29);
            x.land(1, 0, 401);
            x.land(9, 0, 301);
            x.cart(0, 50, 300, 0, 500);
            x.cart(0, 40, 999, 8, 500);
            x.cart(0, 40, 999, 60, 500);
            for (int i = 0; i < 20; i++) {
                x.work(0, i % 2 == 0 ? 1 : 9, 0);
            }
            x.pass(48);
        }
        for (int cell = 0; cell < 20; cell++) {
            for (int what = 0; what <= 10; what++) {
                Check.due("cell " + cell + " " + what, one.cell(cell, what), other.cell(cell, what));
            }
        }
        for (int cart = 0; cart < 3; cart++) {
            for (int what = 1; what <= 5; what++) {
                Check.due("cart " + cart + " " + what, one.told(cart, what), other.told(cart, what));
            }
        }
    }

    private static void noCarts() {
        PloughField x = new PloughField();
        for (int cart = -1; cart <= 8; cart++) {
            Check.due("told " + cart, x.told(cart, 0), -2);
            Check.due("told " + cart + " 100", x.told(cart, 100), -2);
            Check.due("way " + cart, x.way(cart, 0, 0), -1);
            Check.due("charge " + cart, x.charge(cart), false);
        }
        Check.due("told", x.count(1), 0);
    }

    private static void noWorks() {
        PloughField x = new PloughField();
        for (int work = -1; work <= 60; work++) {
            for (int what = -1; what <= 5; what++) {
                Check.due("job " + work + " " + what, x.job(work, what), -2);
            }
        }
    }

    private static void noPlantsOrKinds() {
        PloughField x = new PloughField();
        for (int cell = -1; cell <= 64; cell++) {
            Check.due("plant " + cell, x.plant(cell), false);
            Check.due("look " + cell, x.look(cell, 0), false);
            Check.due("ill " + cell, x.ill(cell, true), false);
            Check.due("not ill " + cell, x.ill(cell, false), false);
            Check.due("plan " + cell, x.plan(cell), -1);
            Check.due("act " + cell, x.act(cell, 0), NO_ANSWER);
        }
        PloughField y = new PloughField();
        for (int n = 0; n <= 64; n++) {
            Check.due("spot " + n, y.spot(n, 0), -1);
            Check.due("pull " + n, y.pull(1, n, 0), -1);
        }
        Check.due("told", x.count(1), 0);
    }

    private static void noRules() {
        PloughField x = new PloughField();
        Check.due("fault", x.fault(), -1);
        Check.due("nothing to read", x.rules(1), -2);
        Check.due("below 0", x.rules(-1), -2);
        Check.due("fault", x.fault(), -1);
        Check.due("nothing is read", x.rules(0), 0);
        Check.due("fault", x.fault(), -1);
    }

    private static void noStrips() {
        PloughField x = new PloughField();
        int[] want = {NO_ANSWER, 1, 1, 0, NO_ANSWER};
        for (int what = -1; what <= 3; what++) {
            Check.due("better " + what, x.better(what), want[what + 1]);
        }
    }

    private static void noneToLeaveOut() {
        PloughField x = new PloughField();
        for (int without = -1; without <= 3; without++) {
            for (int number = -1; number <= 1; number++) {
                Check.due("again " + without + " " + number, x.again(without, number, 0, 0), -1);
            }
        }
    }

    private static void hoursGoByWithNothing() {
        PloughField x = new PloughField();
        Check.due("200", x.pass(200), 200);
        Check.due("400", x.pass(200), 400);
        Check.due("600", x.pass(200), 600);
        Check.due("719", x.pass(119), 719);
        for (int what = 1; what <= 16; what++) {
            Check.due("count " + what, x.count(what), 0);
        }
        for (int cell = 0; cell < 64; cell += 21) {
            for (int what = 0; what <= 10; what++) {
                Check.due("cell " + cell + " " + what, x.cell(cell, what), what == 10 ? 1 : 0);
            }
        }
        Check.due("all wet", x.water(0), 0);
        Check.due("none lost", x.water(2), 0);
    }

    private static void objectsAreApart() {
        PloughField one = NothingTest.busy().make();
        PloughField other = new PloughField();
        PloughField third = NothingTest.full().make();
        for (int what = 0; what <= 16; what++) {
            Check.due("count " + what, other.count(what), 0);
        }
        for (int cell = 0; cell < 40; cell++) {
            for (int what = 0; what <= 10; what++) {
                Check.due("cell " + cell + " " + what, other.cell(cell, what), what == 10 ? 1 : 0);
            }
        }
        Check.due("the first is as it was", one.count(0), 43);
        Check.due("the third is as it was", third.count(4), 60);
    }

    private static void fiveHundredAndTwelveCalls() {
        PloughField x = new PloughField();
        for (int i = 1; i <= 400; i++) {
            Check.due("call " + i, x.land(i % 64, i % 100, i), true);
        }
        for (int i = 401; i <= 511; i++) {
            Check.due("call " + i, x.land(i % 64, i % 100, i), false);
        }
        Check.due("the 512th call", x.count(1), 400);
    }
}
