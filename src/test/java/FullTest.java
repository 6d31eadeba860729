/** Each table full: the last one is as good as the first, the next one is refused, and all of them work. */
public final class FullTest {
    public static void main(String[] args) {
        thirtyRains();
        eightCarts();
        sixtyWorks();
        fortyLots();
        fortyLotsAgain();
        fiveKinds();
        sixtyFourPlants();
        twelveStrips();
        eightRules();
        fiveHundredBytes();
        twentyFourStatements();
        allTablesAtOnce();
        fourHundredOfEachSort();
        fourHundredAreNotCountedTwice();
        fourHundredPlayedAgain();
        Check.end();
    }

    private static void thirtyRains() {
        PloughField x = new PloughField();
        for (int i = 0; i < 30; i++) {
            Check.due("rain " + i, x.rain(1 + i, 30, 1 + i), i);
        }
        Check.due("a thirty-first", x.rain(50, 60, 5), -1);
        Check.due("30", x.count(2), 30);
        Check.due("30 are told", x.count(1), 30);
        long fallen = 0;
        long each = 0;
        for (int hour = 1; hour <= 31; hour++) {
            x.pass(1);
            each = hour <= 30 ? each + hour : 0;
            fallen += 64 * each;
            Check.due("fallen by hour " + hour, x.water(1), fallen);
        }
        Check.due("a rain that fell makes no room", x.rain(50, 60, 5), -1);
        Check.due("without the first", x.again(0, 0, 0, 1), x.cell(0, 1) - 29);
        Check.due("without the last", x.again(0, 29, 0, 1), x.cell(0, 1) - 30);
        Check.due("without one more", x.again(0, 30, 0, 1), -1);
    }

    private static void eightCarts() {
        PloughField x = new PloughField();
        for (int i = 0; i < 8; i++) {
            Check.due("cart " + i, x.cart(0, 1 + i, 999, 8 * i, 100 + i), i);
        }
        Check.due("a ninth", x.cart(1, 1, 999, 0, 100), -1);
        Check.due("8", x.count(3), 8);
        for (int i = 0; i < 8; i++) {
            x.work(0, 8 * i + 7, 0);
        }
        x.pass(8);
        for (int i = 0; i < 8; i++) {
            Check.due("cart " + i + " is on", x.told(i, 1), 8 * i + 7);
            Check.due("cart " + i + " has", x.told(i, 2), 93 + i);
            Check.due("work " + i + " is done by", x.job(i, 4), i);
            Check.due("pressed by " + i, x.cell(8 * i + 3, 2), 1 + i);
        }
        Check.due("no ninth", x.told(8, 0), -2);
        Check.due("no way of a ninth", x.way(8, 0, 0), -1);
        Check.due("all are done", x.count(6), 8);
        Check.due("without the last", x.again(1, 7, 59, 2), 0);
        Check.due("without a ninth", x.again(1, 8, 59, 2), -1);
    }

    private static void sixtyWorks() {
        PloughField x = new PloughField();
        x.kind(true, 1, 50, 50, 50, 50);
        x.plant(63);
        x.cart(2, 1, 999, 63, 10);
        for (int i = 0; i < 60; i++) {
            Check.due("work " + i, x.work(2, 63, 999), i);
        }
        Check.due("a sixty-first", x.work(2, 63, 999), -1);
        Check.due("and of another kind", x.work(0, 0, 0), -1);
        Check.due("60 open", x.count(5), 60);
        x.pass(59);
        Check.due("59 done", x.count(6), 59);
        Check.due("the last is open", x.job(59, 3), 0);
        x.pass(1);
        Check.due("60 done", x.count(6), 60);
        Check.due("none open", x.count(5), 0);
        Check.due("the last is done", x.job(59, 3), 2);
        Check.due("it got", x.cell(63, 7), 60 * 999);
        Check.due("all got", x.count(16), 60 * 999);
        Check.due("a work that's done makes no room", x.work(2, 63, 999), -1);
        Check.due("no sixty-first", x.job(60, 0), -2);
        Check.due("without the last", x.again(2, 59, 63, 7), 59 * 999);
        Check.due("without a sixty-first", x.again(2, 60, 63, 7), -1);
    }

    /** Four plants around an ill one take four lots a day; the fortieth lot is 20, the first is 50, all others 99. */
    private static PloughField fortyLotsTold() {
        PloughField x = new PloughField();
        x.kind(true, 1, 50, 50, 50, 50);
        for (int cell : new int[] {1, 8, 9, 10, 17}) {
            x.plant(cell);
        }
        x.ill(9, true);
        for (int i = 1; i <= 40; i++) {
            Check.due("lot " + i, x.lot(i == 1 ? 50 : i == 40 ? 20 : 99), i);
        }
        Check.due("a forty-first", x.lot(0), -1);
        Check.due("40", x.count(7), 40);
        return x;
    }

    private static void fortyLots() {
        PloughField x = fortyLotsTold();
        x.pass(200);
        x.pass(39);
        Check.due("nine days: none", x.count(10), 1);
        x.pass(1);
        Check.due("the fortieth lot is for 17", x.cell(17, 5), 1);
        Check.due("for no other", x.count(10), 2);
        x.set(2, 51);
        x.pass(24);
        Check.due("then the first again, for 1", x.cell(1, 5), 1);
        Check.due("for no other", x.count(10), 3);
        Check.due("lots taken make no room", x.lot(0), -1);
    }

    private static void fortyLotsAgain() {
        PloughField x = fortyLotsTold();
        x.rain(5, 5, 1);
        x.pass(200);
        x.pass(40);
        x.set(2, 51);
        x.pass(24);
        Check.due("17, played again", x.again(0, 0, 17, 5), 1);
        Check.due("1, played again", x.again(0, 0, 1, 5), 1);
        Check.due("8, played again", x.again(0, 0, 8, 5), 0);
        Check.due("10, played again", x.again(0, 0, 10, 5), 0);
    }

    private static void fiveKinds() {
        PloughField x = new PloughField();
        for (int i = 0; i < 5; i++) {
            Check.due("kind " + i, x.kind(i % 2 == 0, 10 * i + 10, 50, 50, 50, 20 * i + 10), i);
        }
        Check.due("a sixth", x.kind(true, 1, 50, 50, 50, 50), -1);
        Check.due("5", x.count(8), 5);
        x.plant(63);
        long[] parts = {10, 20, 30, 40, 50};
        for (int i = 0; i < 5; i++) {
            Check.due("share " + i, x.share(63, i), parts[i] * 1000000000L / 150);
        }
        Check.due("weeds: 90 of 150", x.cell(63, 9), 59);
        x.look(63, 8);
        // 1, 6, 15, 28, 45 of 95
        int[] after = {1, 6, 15, 28, 45};
        for (int i = 0; i < 5; i++) {
            Check.due("share " + i + " seen", x.share(63, i) / 1000, after[i] * 1000000L / 95);
        }
        Check.due("no sixth", x.share(63, 5), -1);
    }

    private static void sixtyFourPlants() {
        PloughField x = new PloughField();
        x.kind(true, 1, 50, 50, 50, 50);
        for (int cell = 0; cell < 64; cell++) {
            Check.due("plant " + cell, x.plant(cell), true);
        }
        for (int cell = 0; cell < 64; cell++) {
            Check.due("one stands on " + cell, x.plant(cell), false);
            Check.due("ill " + cell, x.ill(cell, true), true);
            Check.due("seen " + cell, x.look(cell, 15), true);
        }
        Check.due("64", x.count(9), 64);
        Check.due("64 ill", x.count(10), 64);
        Check.due("told", x.count(1), 193);
        x.pass(24);
        Check.due("the first has grown", x.cell(0, 4), 1);
        Check.due("the last has grown", x.cell(63, 4), 1);
        Check.due("all are come to", x.pull(3, 64, 0), 64);
    }

    private static void twelveStrips() {
        PloughField x = new PloughField();
        for (int i = 0; i < 12; i++) {
            Check.due("strip " + i, x.strip(i == 11 ? 1 : 0, i == 11 ? 9999 : i), i);
        }
        Check.due("a thirteenth", x.strip(1, 9999), -1);
        Check.due("12", x.count(11), 12);
        Check.due("none is told", x.count(1), 0);
        Check.due("lead", x.better(2), 9999 * 11 - 55);
        Check.due("the last is the best", x.better(0), 1);
        Check.due("12 ways", x.better(1), 12);
    }

    private static void eightRules() {
        PloughField x = new PloughField();
        x.kind(true, 1, 50, 50, 50, 50);
        x.plant(0);
        for (int i = 0; i < 8; i++) {
            Check.due("rules " + i, Check.rules(x, "give " + i + ";"), i);
            Check.due("in force " + i, x.act(0, 2), i);
        }
        Check.feed(x, "give 9;");
        Check.due("a ninth", x.rules(7), -3);
        Check.due("the eighth is in force", x.act(0, 2), 7);
        Check.due("8", x.count(12), 8);
        Check.due("the tape is as it was", x.count(14), 20);
    }

    private static void fiveHundredBytes() {
        // 24 statements of 500 bytes in all, the last one ends with the last byte
        StringBuilder text = new StringBuilder();
        for (int i = 0; i < 23; i++) {
            text.append("give wet+").append(10 + i).append(" if wet=").append(i % 10).append(";");
        }
        text.append("give 1");
        while (text.length() < 497) {
            text.append("+1");
        }
        text.append(text.length() == 497 ? "+0;" : "0;");
        Check.due("500", text.length(), 500);
        PloughField x = new PloughField();
        x.kind(true, 1, 50, 50, 50, 50);
        x.plant(0);
        Check.feed(x, text.toString());
        Check.due("500 on the tape", x.count(14), 500);
        Check.due("no more", x.feed(0, 0, 0, 0, 0), -1);
        Check.due("rules", x.rules(500), 0);
        Check.due("24", x.count(13), 24);
        Check.due("the first", x.act(0, 2), 10);
        x.land(0, 0, 9);
        Check.due("the tenth", x.act(0, 0), 9);
        Check.due("it tells", x.act(0, 2), 28);
        x.land(0, 0, 10);
        Check.due("the last", x.act(0, 0), 23);
        Check.feed(x, text.toString());
        Check.due("one byte less", x.rules(499), -1);
        Check.due("more must come", x.fault(), 499);
    }

    private static void twentyFourStatements() {
        StringBuilder text = new StringBuilder();
        for (int i = 0; i < 24; i++) {
            text.append("give ").append(i).append(" if wet=").append(i).append(";");
        }
        PloughField x = new PloughField();
        x.kind(true, 1, 50, 50, 50, 50);
        x.plant(0);
        Check.due("rules", Check.rules(x, text.toString()), 0);
        for (int i = 0; i < 24; i++) {
            x.land(0, 0, i);
            Check.due("statement " + i, x.act(0, 0), i);
            Check.due("tells " + i, x.act(0, 2), i);
        }
        x.land(0, 0, 24);
        Check.due("none", x.act(0, 0), -2000000000);
        Check.due("25", Check.rules(x, text + "take;"), -1);
        Check.due("where it begins", x.fault(), text.length());
        x.land(0, 0, 23);
        Check.due("the 24 are in force", x.act(0, 0), 23);
    }

    private static void allTablesAtOnce() {
        PloughField x = NothingTest.full().make();
        Check.due("told", x.count(1), 30 + 8 + 60 + 40 + 5 + 64 + 2);
        x.pass(200);
        x.pass(200);
        x.pass(200);
        x.pass(93);
        Check.due("the last hour", x.count(0), 719);
        int works = 0;
        for (int work = 0; work < 60; work++) {
            works += x.job(work, 3) == 2 ? 1 : 0;
        }
        Check.due("done", x.count(6), works);
        Check.due("fallen: 30 rains of 39 hours", x.water(1), 30L * 39 * 64);
        Check.due("nothing is lost otherwise", x.water(0) + x.water(2), 30L * 39 * 64);
        for (int what = 0; what <= 10; what++) {
            Check.due("without the last rain " + what, x.again(0, 29, 0, what) >= 0, true);
            Check.due("without the last cart " + what, x.again(1, 7, 0, what) >= 0, true);
            Check.due("without the last work " + what, x.again(2, 59, 0, what) >= 0, true);
        }
    }

    /** A run with 399 told, so that one more can be told, whatever it is. */
    private static PloughField oneLeft() {
        PloughField x = new PloughField();
        x.kind(true, 1, 80, 50, 50, 50);
        x.plant(0);
        x.plant(1);
        x.ill(1, true);
        x.cart(0, 1, 999, 0, 10);
        x.work(0, 63, 0);
        x.pass(11);
        for (int i = 6; i < 399; i++) {
            x.land(60, i % 100, i);
        }
        Check.due("399 are told", x.count(1), 399);
        return x;
    }

    private static long call(PloughField x, int sort) {
        switch (sort) {
            case 0: return x.land(5, 5, 5) ? 1 : 0;
            case 1: return x.set(0, 5) ? 1 : 0;
            case 2: return x.charge(0) ? 1 : 0;
            case 3: return x.plant(5) ? 1 : 0;
            case 4: return x.show(5, 5) ? 1 : 0;
            case 5: return x.look(0, 5) ? 1 : 0;
            case 6: return x.ill(0, true) ? 1 : 0;
            case 7: return x.ill(1, false) ? 1 : 0;
            case 8: return x.rain(20, 21, 5);
            case 9: return x.cart(1, 5, 500, 5, 50);
            case 10: return x.work(2, 5, 5);
            case 11: return x.lot(5);
            default: return x.kind(true, 5, 5, 5, 5, 5);
        }
    }

    private static void fourHundredOfEachSort() {
        long[] want = {1, 1, 1, 1, 1, 1, 1, 1, 0, 1, 1, 1, 1};
        for (int sort = 0; sort < want.length; sort++) {
            PloughField x = oneLeft();
            Check.due("the four hundredth, sort " + sort, call(x, sort), want[sort]);
            Check.due("400 are told", x.count(1), 400);
            for (int other = 0; other < want.length; other++) {
                Check.due("one more, sort " + other, call(x, other), other < 8 ? 0 : -1);
            }
            Check.due("400 are told still", x.count(1), 400);
            Check.due("rains", x.count(2), sort == 8 ? 1 : 0);
            Check.due("carts", x.count(3), sort == 9 ? 2 : 1);
            Check.due("works", x.count(4), sort == 10 ? 2 : 1);
            Check.due("lots", x.count(7), sort == 11 ? 1 : 0);
            Check.due("kinds", x.count(8), sort == 12 ? 2 : 1);
        }
    }

    private static void fourHundredAreNotCountedTwice() {
        // what is refused and what isn't told doesn't count
        PloughField x = new PloughField();
        x.land(64, 0, 0);
        x.set(4, 1);
        x.rain(0, 1, 1);
        x.strip(0, 1);
        x.feed(0, 0, 0, 0, 0);
        x.rules(0);
        x.pass(1);
        x.plan(0);
        x.cell(0, 0);
        Check.due("none is told", x.count(1), 0);
        for (int i = 0; i < 400; i++) {
            Check.due("told " + i, x.show(i % 64, i % 16), true);
        }
        Check.due("one more", x.show(0, 0), false);
        Check.due("400", x.count(1), 400);
        Check.due("strips are taken", x.strip(1, 1), 1);
        Check.due("bytes are taken", x.feed(0, 0, 0, 0, 0), 20);
        Check.due("rules are taken", x.rules(0), 1);
        Check.due("hours go by", x.pass(1), 2);
    }

    private static void fourHundredPlayedAgain() {
        PloughField x = new PloughField();
        x.rain(100, 100, 7);
        for (int i = 1; i < 400; i++) {
            x.land(i % 64, i % 100, i % 100);
            if (i % 40 == 0) {
                x.pass(1);
            }
        }
        Check.due("400", x.count(1), 400);
        Check.due("hour 9", x.count(0), 9);
        for (int cell = 0; cell < 64; cell += 9) {
            Check.due("height " + cell, x.again(0, 0, cell, 0), x.cell(cell, 0));
            Check.due("wet " + cell, x.again(0, 0, cell, 1), x.cell(cell, 1));
        }
        Check.due("the last one told", x.cell(399 % 64, 0), 99);
    }
}
