/** Promise 31: the counts. */
public final class CountTest {
    public static void main(String[] args) {
        PloughField x = new PloughField();
        x.rain(1, 2, 3);
        x.rain(1, 2, 3);
        x.cart(0, 1, 50, 0, 100);
        x.cart(2, 1, 999, 9, 100);
        x.cart(1, 1, 999, 63, 100);
        x.land(1, 0, 300);
        x.kind(true, 1, 50, 50, 50, 50);
        x.plant(9);
        x.plant(10);
        x.plant(11);
        x.plant(62);
        x.ill(9, true);
        x.ill(10, true);
        for (int i = 0; i < 6; i++) {
            x.lot(99);
        }
        x.work(0, 1, 0);
        x.work(2, 9, 40);
        x.work(2, 10, 2);
        x.work(1, 62, 0);
        x.work(1, 0, 0);
        x.strip(0, 1);
        x.strip(1, 1);
        x.strip(1, 1);
        Check.rules(x, "take;look;leave;");
        Check.rules(x, "take;look;");
        Check.feed(x, "look");
        x.pass(3);
        Check.due("stuck", x.told(0, 3), 4);
        int[] want = {3, 24, 2, 3, 5, 1, 3, 6, 1, 3, 2, 3, 2, 2, 20, 1, 42};
        for (int what = 0; what < want.length; what++) {
            Check.due("count " + what, x.count(what), want[what]);
        }
        PloughField y = new PloughField();
        y.kind(true, 1, 50, 50, 50, 50);
        y.plant(0);
        y.plant(63);
        y.cart(2, 1, 999, 0, 100);
        y.cart(2, 1, 999, 63, 100);
        y.work(2, 0, 40);
        y.work(2, 63, 2);
        y.pass(1);
        Check.due("the first and the last cell", y.count(16), 42);
        Check.due("none such", x.count(17), -1);
        Check.due("none such", x.count(-1), -1);
        Check.due("none such", x.count(Integer.MIN_VALUE), -1);
        Check.due("none such", x.count(Integer.MAX_VALUE), -1);
        Check.end();
    }
}
