/**
 * A call that is refused does nothing: for every promise the first values that aren't taken, on either side, in
 * an empty object, a busy one, one with every table full, one that was told 400, one in its last hour.
 */
public final class NothingTest {
    private static final int LOW = Integer.MIN_VALUE;
    private static final int HIGH = Integer.MAX_VALUE;
    private static final int NO_ANSWER = -2000000000;

    public static void main(String[] args) {
        busyIsBusy();
        fullIsFull();
        toldOutIsToldOut();
        Twins empty = new Twins("empty", new Run());
        Twins busy = new Twins("busy", busy());
        Twins full = new Twins("full", full());
        Twins toldOut = new Twins("told out", toldOut());
        Twins late = new Twins("late", late());
        for (Twins one : new Twins[] {empty, busy, full, toldOut, late}) {
            wrongTold(one);
            wrongCartsAndWorks(one);
            wrongPlants(one);
            wrongHours(one);
            wrongTape(one);
            wrongQuestions(one);
        }
        emptyRefuses(empty);
        busyRefuses(busy);
        fullRefuses(full);
        toldOutRefuses(toldOut);
        lateRefuses(late);
        empty.questionsChangeNothing();
        busy.questionsChangeNothing();
        full.questionsChangeNothing();
        Check.end();
    }

    /** At hour 43 a cart for each thing that a cart does, works open, taken on and done, rules, a fault, a tape. */
    static Run busy() {
        Run run = new Run();
        run.does(x -> x.kind(true, 2, 80, 50, 30, 50)).does(x -> x.kind(false, 5, 20, 60, 50, 50));
        for (int cell : new int[] {9, 10, 11, 18, 27, 28, 35, 48, 63}) {
            run.asks(x -> x.plant(cell));
        }
        run.does(x -> x.lot(10)).does(x -> x.lot(50)).does(x -> x.lot(20)).asks(x -> x.ill(10, true));
        run.asks(x -> x.show(9, 5)).asks(x -> x.look(9, 1)).asks(x -> x.land(28, 7, 250)).asks(x -> x.land(20, 3, 60));
        run.does(x -> x.rain(3, 5, 20)).does(x -> x.rain(60, 62, 9)).does(x -> x.pass(24));
        run.does(x -> x.cart(1, 1, 50, 8, 100)).does(x -> x.work(1, 16, 0)).asks(x -> x.land(16, 0, 300));
        run.does(x -> x.cart(3, 1, 999, 56, 10)).does(x -> x.work(3, 7, 0));
        run.does(x -> x.cart(0, 1, 999, 0, 20)).does(x -> x.work(0, 36, 0)).does(x -> x.pass(7));
        run.does(x -> x.cart(0, 1, 999, 63, 12)).does(x -> x.work(0, 18, 0)).does(x -> x.pass(2));
        run.does(x -> x.work(0, 0, 0)).does(x -> x.pass(8));
        run.does(x -> x.cart(2, 2, 999, 7, 100)).does(x -> x.work(2, 56, 30)).does(x -> x.pass(1));
        run.does(x -> x.cart(0, 2, 999, 5, 50)).does(x -> x.pass(1));
        run.does(x -> x.strip(0, 5)).does(x -> x.strip(1, 7)).does(x -> x.strip(1, 2));
        run.rules("give 5 if wet>90;look if looks<1;leave if ill=1;take if size<1;").rules("take if;");
        return run.feeds("look;take;leave;look;");
    }

    private static void busyIsBusy() {
        PloughField x = busy().make();
        int[] does = {4, 5, 3, 2, 1, 0};
        for (int cart = 0; cart < does.length; cart++) {
            Check.due("busy: what cart " + cart + " does", x.told(cart, 3), does[cart]);
        }
        int[] states = {0, 0, 2, 2, 2, 1};
        for (int work = 0; work < states.length; work++) {
            Check.due("busy: work " + work, x.job(work, 3), states[work]);
        }
        int[] want = {43, 34, 2, 6, 6, 2, 3, 3, 2, 9, 3, 3, 1, 4, 40, 1, 0};
        for (int what = 0; what < want.length; what++) {
            Check.due("busy: count " + what, x.count(what), want[what]);
        }
        Check.due("busy: a fault", x.fault(), 7);
        Check.due("busy: give", x.act(27, 1), 3);
        Check.due("busy: look", x.act(28, 1), 1);
        Check.due("busy: leave", x.act(9, 1), 2);
    }

    static Run full() {
        Run run = new Run();
        for (int i = 0; i < 64; i++) {
            int k = i;
            if (i < 5) run.does(x -> x.kind(k % 2 == 0, 10 + k, 20, 30, 40, 50 + k));
            if (i < 8) run.does(x -> x.cart(k % 4, 1, 999, k * 8, 40));
            if (i < 30) run.does(x -> x.rain(2 + k, 40 + k, 1));
            if (i < 60) run.does(x -> x.work(k % 4, 63 - k, k % 4 == 2 ? 5 : 0));
            if (i < 40) run.does(x -> x.lot(k * 2));
            if (i < 12) run.does(x -> x.strip(k % 2, k * 100));
            run.asks(x -> x.plant(k));
        }
        run.asks(x -> x.ill(9, true)).asks(x -> x.ill(54, true));
        for (int i = 0; i < 7; i++) {
            run.does(x -> x.rules(0));
        }
        run.rules("look if looks<1;take;").does(x -> x.pass(26));
        return run.feeds("take;".repeat(100));
    }

    private static void fullIsFull() {
        PloughField x = full().make();
        int[] whats = {2, 3, 4, 7, 8, 11, 12, 14};
        int[] want = {30, 8, 60, 40, 5, 12, 8, 500};
        for (int i = 0; i < whats.length; i++) {
            Check.due("full: count " + whats[i], x.count(whats[i]), want[i]);
        }
        Check.due("full: not told out", x.count(1) < 400, true);
        Check.due("full: works are done", x.count(6) > 10, true);
    }

    static Run toldOut() {
        Run run = new Run();
        run.does(x -> x.kind(true, 1, 50, 50, 50, 50)).asks(x -> x.plant(9)).does(x -> x.rain(30, 31, 5));
        run.does(x -> x.cart(0, 1, 999, 0, 10)).does(x -> x.work(0, 63, 0)).does(x -> x.pass(11));
        for (int i = 5; i < 400; i++) {
            int k = i;
            run.asks(x -> x.land(k % 64, k % 100, k % 90));
        }
        return run.rules("take;");
    }

    private static void toldOutIsToldOut() {
        PloughField x = toldOut().make();
        Check.due("told out: 400", x.count(1), 400);
        Check.due("told out: a cart is flat", x.told(0, 3), 5);
        Check.due("told out: take", x.act(9, 1), 0);
    }

    static Run late() {
        Run run = new Run();
        run.does(x -> x.kind(true, 1, 50, 50, 50, 50)).asks(x -> x.plant(9)).asks(x -> x.plant(10));
        run.asks(x -> x.ill(9, true)).does(x -> x.lot(40)).does(x -> x.rain(700, 719, 5));
        run.does(x -> x.cart(0, 1, 999, 0, 100)).does(x -> x.work(0, 63, 0)).does(x -> x.work(1, 9, 0));
        run.does(x -> x.pass(200)).does(x -> x.pass(200)).does(x -> x.pass(200)).does(x -> x.pass(119));
        return run.rules("look;");
    }

    private static void wrongTold(Twins one) {
        one.nothing("land", 0, new Run().asks(x -> x.land(-1, 5, 5)).asks(x -> x.land(64, 5, 5))
                .asks(x -> x.land(5, -1, 5)).asks(x -> x.land(5, 100, 5)).asks(x -> x.land(5, 5, -1))
                .asks(x -> x.land(5, 5, 1000)).asks(x -> x.land(LOW, 5, 5)).asks(x -> x.land(HIGH, 5, 5))
                .asks(x -> x.land(5, LOW, 5)).asks(x -> x.land(5, HIGH, 5)).asks(x -> x.land(5, 5, LOW))
                .asks(x -> x.land(5, 5, HIGH)));
        Run set = new Run();
        for (int w : new int[] {0, 1, 10000, LOW, HIGH}) {
            set.asks(x -> x.set(-1, w)).asks(x -> x.set(4, w)).asks(x -> x.set(LOW, w)).asks(x -> x.set(HIGH, w));
        }
        for (int w : new int[] {-1, 10000, LOW, HIGH}) {
            set.asks(x -> x.set(0, w)).asks(x -> x.set(1, w)).asks(x -> x.set(2, w)).asks(x -> x.set(3, w));
        }
        one.nothing("set", 0, set.asks(x -> x.set(0, 0)).asks(x -> x.set(1, 0)).asks(x -> x.set(2, 101))
                .asks(x -> x.set(3, 15)));
        one.nothing("rain", -1, new Run().does(x -> x.rain(-1, 719, 5)).does(x -> x.rain(0, 719, 5))
                .does(x -> x.rain(719, 720, 5)).does(x -> x.rain(720, 720, 5)).does(x -> x.rain(719, 718, 5))
                .does(x -> x.rain(718, 719, 0)).does(x -> x.rain(718, 719, 100)).does(x -> x.rain(718, 719, -1))
                .does(x -> x.rain(LOW, 719, 5)).does(x -> x.rain(HIGH, HIGH, 5)).does(x -> x.rain(718, HIGH, 5))
                .does(x -> x.rain(718, LOW, 5)).does(x -> x.rain(718, 719, LOW)).does(x -> x.rain(718, 719, HIGH)));
        one.nothing("lot", -1, new Run().does(x -> x.lot(-1)).does(x -> x.lot(100)).does(x -> x.lot(LOW))
                .does(x -> x.lot(HIGH)));
        Run kind = new Run().does(x -> x.kind(true, 0, 5, 5, 5, 5)).does(x -> x.kind(false, 101, 5, 5, 5, 5))
                .does(x -> x.kind(true, LOW, 5, 5, 5, 5)).does(x -> x.kind(false, HIGH, 5, 5, 5, 5));
        for (int w : new int[] {-1, 0, 100, LOW, HIGH}) {
            kind.does(x -> x.kind(true, 5, w, 5, 5, 5)).does(x -> x.kind(false, 5, 5, w, 5, 5))
                    .does(x -> x.kind(true, 5, 5, 5, w, 5)).does(x -> x.kind(false, 5, 5, 5, 5, w));
        }
        one.nothing("kind", -1, kind);
    }

    private static void wrongCartsAndWorks(Twins one) {
        one.nothing("cart", -1, new Run().does(x -> x.cart(-1, 5, 500, 5, 50)).does(x -> x.cart(4, 5, 500, 5, 50))
                .does(x -> x.cart(0, 0, 500, 5, 50)).does(x -> x.cart(0, 51, 500, 5, 50))
                .does(x -> x.cart(0, 5, 49, 5, 50)).does(x -> x.cart(0, 5, 1000, 5, 50))
                .does(x -> x.cart(0, 5, 500, -1, 50)).does(x -> x.cart(0, 5, 500, 64, 50))
                .does(x -> x.cart(0, 5, 500, 5, 9)).does(x -> x.cart(0, 5, 500, 5, 501))
                .does(x -> x.cart(LOW, 5, 500, 5, 50)).does(x -> x.cart(HIGH, 5, 500, 5, 50))
                .does(x -> x.cart(0, LOW, 500, 5, 50)).does(x -> x.cart(0, HIGH, 500, 5, 50))
                .does(x -> x.cart(0, 5, LOW, 5, 50)).does(x -> x.cart(0, 5, HIGH, 5, 50))
                .does(x -> x.cart(0, 5, 500, LOW, 50)).does(x -> x.cart(0, 5, 500, HIGH, 50))
                .does(x -> x.cart(0, 5, 500, 5, LOW)).does(x -> x.cart(0, 5, 500, 5, HIGH)));
        one.nothing("charge", 0, new Run().asks(x -> x.charge(-1)).asks(x -> x.charge(8)).asks(x -> x.charge(LOW))
                .asks(x -> x.charge(HIGH)));
        one.nothing("work", -1, new Run().does(x -> x.work(-1, 5, 0)).does(x -> x.work(4, 5, 0))
                .does(x -> x.work(0, -1, 0)).does(x -> x.work(0, 64, 0)).does(x -> x.work(2, -1, 5))
                .does(x -> x.work(2, 64, 5)).does(x -> x.work(0, 5, 1)).does(x -> x.work(1, 5, 1))
                .does(x -> x.work(3, 5, 1)).does(x -> x.work(0, 5, -1)).does(x -> x.work(1, 5, -1))
                .does(x -> x.work(3, 5, -1)).does(x -> x.work(2, 5, 0)).does(x -> x.work(2, 5, 1000))
                .does(x -> x.work(2, 5, -1)).does(x -> x.work(2, 5, LOW)).does(x -> x.work(2, 5, HIGH))
                .does(x -> x.work(LOW, 5, 0)).does(x -> x.work(HIGH, 5, 0)).does(x -> x.work(0, LOW, 0))
                .does(x -> x.work(0, HIGH, 0)).does(x -> x.work(0, 5, LOW)).does(x -> x.work(0, 5, HIGH)));
        one.nothing("strip", -1, new Run().does(x -> x.strip(-1, 5)).does(x -> x.strip(2, 5))
                .does(x -> x.strip(0, -1)).does(x -> x.strip(1, 10000)).does(x -> x.strip(LOW, 5))
                .does(x -> x.strip(HIGH, 5)).does(x -> x.strip(0, LOW)).does(x -> x.strip(0, HIGH)));
    }

    private static void wrongPlants(Twins one) {
        Run cells = new Run();
        Run plans = new Run();
        for (int w : new int[] {-1, 64, LOW, HIGH}) {
            cells.asks(x -> x.plant(w)).asks(x -> x.show(w, 5)).asks(x -> x.look(w, 5)).asks(x -> x.ill(w, true))
                    .asks(x -> x.ill(w, false));
            plans.does(x -> x.plan(w));
        }
        one.nothing("plant, show, look, ill without a cell", 0, cells);
        one.nothing("plan without a cell", -1, plans);
        Run marks = new Run();
        for (int w : new int[] {-1, 16, LOW, HIGH}) {
            marks.asks(x -> x.show(9, w)).asks(x -> x.look(9, w));
        }
        one.nothing("marks", 0, marks);
    }

    private static void wrongHours(Twins one) {
        one.nothing("pass", -1, new Run().does(x -> x.pass(0)).does(x -> x.pass(-1)).does(x -> x.pass(201))
                .does(x -> x.pass(LOW)).does(x -> x.pass(HIGH)));
    }

    private static void wrongTape(Twins one) {
        one.nothing("rules", -2, new Run().does(x -> x.rules(-1)).does(x -> x.rules(501)).does(x -> x.rules(LOW))
                .does(x -> x.rules(HIGH)));
    }

    private static void wrongQuestions(Twins one) {
        Run none = new Run().does(x -> x.water(-1)).does(x -> x.water(3)).does(x -> x.count(-1)).does(x -> x.count(17));
        Run noneSuch = new Run();
        Run noAnswer = new Run().does(x -> x.better(-1)).does(x -> x.better(3)).does(x -> x.better(LOW));
        for (int w : new int[] {-1, 64, LOW, HIGH}) {
            none.does(x -> x.cell(w, 1)).does(x -> x.share(w, 0)).does(x -> x.way(0, w, 0)).does(x -> x.again(0, 0, w, 1));
            noAnswer.does(x -> x.act(w, 0));
        }
        for (int w : new int[] {-1, 65, LOW, HIGH}) {
            none.does(x -> x.spot(w, 0)).does(x -> x.pull(1, w, 0));
        }
        for (int w : new int[] {-1, 60, LOW, HIGH}) {
            none.does(x -> x.way(w, 5, 0)).does(x -> x.again(0, w, 5, 1)).does(x -> x.again(1, w, 5, 1))
                    .does(x -> x.again(2, w, 5, 1)).does(x -> x.share(9, w));
            noneSuch.does(x -> x.told(w, 0)).does(x -> x.job(w, 0));
        }
        for (int w : new int[] {-1, 11, LOW, HIGH}) {
            none.does(x -> x.cell(9, w)).does(x -> x.again(0, 0, 9, w)).does(x -> x.way(0, 9, w));
            noAnswer.does(x -> x.act(9, w));
            noneSuch.does(x -> x.told(0, w)).does(x -> x.job(0, w));
        }
        for (int w : new int[] {-1, 3, LOW, HIGH}) {
            none.does(x -> x.again(w, 0, 9, 1));
        }
        none.does(x -> x.pull(0, 1, 0)).does(x -> x.pull(4, 1, 0)).does(x -> x.pull(1, 1, 1)).does(x -> x.pull(1, 1, 9))
                .does(x -> x.pull(1, 1, 18)).does(x -> x.pull(1, 1, 19)).does(x -> x.pull(1, 1, 28))
                .does(x -> x.spot(1, -1)).does(x -> x.spot(1, 64)).does(x -> x.spot(1, LOW));
        noneSuch.does(x -> x.told(0, 6)).does(x -> x.told(0, 99)).does(x -> x.told(0, 164)).does(x -> x.job(0, 5));
        one.nothing("questions that have none", -1, none);
        one.nothing("told and job of none such", -2, noneSuch);
        one.nothing("better and act of others", NO_ANSWER, noAnswer);
    }

    private static void emptyRefuses(Twins empty) {
        empty.nothing("charge, plant, look, ill", 0, new Run().asks(x -> x.charge(0)).asks(x -> x.plant(0))
                .asks(x -> x.plant(63)).asks(x -> x.look(0, 0)).asks(x -> x.look(63, 15)).asks(x -> x.ill(0, true))
                .asks(x -> x.ill(0, false)));
        empty.nothing("plan, rain now", -1, new Run().does(x -> x.plan(0)).does(x -> x.plan(63))
                .does(x -> x.rain(0, 0, 5)));
        empty.nothing("rules of more than there are", -2, new Run().does(x -> x.rules(1)).does(x -> x.rules(20)));
    }

    private static void busyRefuses(Twins busy) {
        busy.nothing("charge of one that isn't flat, or isn't there", 0, new Run().asks(x -> x.charge(0))
                .asks(x -> x.charge(2)).asks(x -> x.charge(3)).asks(x -> x.charge(4)).asks(x -> x.charge(5))
                .asks(x -> x.charge(6)));
        busy.nothing("plant where one stands, look where none does", 0, new Run().asks(x -> x.plant(9))
                .asks(x -> x.plant(63)).asks(x -> x.look(0, 1)).asks(x -> x.look(62, 1)));
        busy.nothing("ill where none stands, or it's so", 0, new Run().asks(x -> x.ill(0, true))
                .asks(x -> x.ill(0, false)).asks(x -> x.ill(10, true)).asks(x -> x.ill(27, false)));
        busy.nothing("rain not later than now", -1, new Run().does(x -> x.rain(43, 50, 5)).does(x -> x.rain(42, 50, 5))
                .does(x -> x.rain(43, 43, 5)).does(x -> x.rain(45, 44, 5)));
        busy.nothing("plan of leave, of no plant", -1, new Run().does(x -> x.plan(9)).does(x -> x.plan(0))
                .does(x -> x.plan(62)));
        busy.nothing("rules of one byte more", -2, new Run().does(x -> x.rules(41)));
        busy.nothing("questions of the next number", -1, new Run().does(x -> x.way(6, 0, 0)).does(x -> x.share(9, 2))
                .does(x -> x.again(0, 2, 0, 0)).does(x -> x.again(1, 6, 0, 0)).does(x -> x.again(2, 6, 0, 0)));
        busy.nothing("carts and works of the next number", -2, new Run().does(x -> x.told(6, 0)).does(x -> x.job(6, 0)));
    }

    private static void fullRefuses(Twins full) {
        full.nothing("one more of each", -1, new Run().does(x -> x.rain(700, 701, 5)).does(x -> x.cart(0, 5, 500, 5, 50))
                .does(x -> x.work(0, 5, 0)).does(x -> x.work(2, 5, 5)).does(x -> x.lot(5))
                .does(x -> x.kind(true, 5, 5, 5, 5, 5)).does(x -> x.strip(0, 5)).does(x -> x.feed(1, 2, 3, 4, 5)));
        full.nothing("more rules", -3, new Run().does(x -> x.rules(0)).does(x -> x.rules(5)).does(x -> x.rules(3))
                .does(x -> x.rules(500)));
        full.nothing("plan of a sixty-first", -1, new Run().does(x -> x.plan(0)).does(x -> x.plan(1))
                .does(x -> x.plan(63)));
    }

    private static void toldOutRefuses(Twins toldOut) {
        toldOut.nothing("true or false", 0, new Run().asks(x -> x.land(5, 5, 5)).asks(x -> x.set(0, 5))
                .asks(x -> x.set(1, 5)).asks(x -> x.set(2, 5)).asks(x -> x.set(3, 5)).asks(x -> x.charge(0))
                .asks(x -> x.plant(10)).asks(x -> x.show(9, 5)).asks(x -> x.look(9, 5)).asks(x -> x.ill(9, true)));
        toldOut.nothing("numbers", -1, new Run().does(x -> x.rain(20, 21, 5)).does(x -> x.cart(0, 5, 500, 5, 50))
                .does(x -> x.work(0, 5, 0)).does(x -> x.work(2, 5, 5)).does(x -> x.lot(5))
                .does(x -> x.kind(true, 5, 5, 5, 5, 5)).does(x -> x.plan(9)));
    }

    private static void lateRefuses(Twins late) {
        late.nothing("pass and rain", -1, new Run().does(x -> x.pass(1)).does(x -> x.pass(200))
                .does(x -> x.rain(719, 719, 5)).does(x -> x.rain(718, 719, 5)).does(x -> x.rain(720, 720, 5)));
    }
}
