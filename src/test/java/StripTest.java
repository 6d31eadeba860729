/** Promises 23 and 24: strips and whether the lead is better than chance. */
public final class StripTest {
    public static void main(String[] args) {
        promise23Strip();
        promise24Better();
        tiesCount();
        twelve();
        Check.end();
    }

    private static void promise23Strip() {
        PloughField x = new PloughField();
        int[][] wrong = {{-1, 0}, {2, 0}, {0, -1}, {0, 10000}, {Integer.MIN_VALUE, 5}, {1, Integer.MAX_VALUE}};
        for (int[] w : wrong) {
            Check.due("strip wrong " + w[0] + " " + w[1], x.strip(w[0], w[1]), -1);
        }
        for (int i = 0; i < 12; i++) {
            Check.due("strip " + i, x.strip(i % 2, i % 3 == 0 ? 9999 : 0), i);
        }
        Check.due("13th strip", x.strip(0, 5), -1);
        Check.due("strips", x.count(11), 12);
        Check.due("strips aren't told", x.count(1), 0);
    }

    private static void promise24Better() {
        PloughField x = new PloughField();
        Check.due("one way to deal nothing", x.better(1), 1);
        Check.due("it's as good as it is", x.better(0), 1);
        Check.due("no lead", x.better(2), 0);
        Check.due("others", x.better(3), -2000000000);
        Check.due("others", x.better(-1), -2000000000);
        x.strip(1, 5);
        Check.due("one arm alone", x.better(1), 1);
        Check.due("no lead of one arm", x.better(2), 0);
        x.strip(0, 9);
        Check.due("lead 5 - 9", x.better(2), -4);
        Check.due("both ways are at least so", x.better(0), 2);
        x.strip(0, 1);
        // arm 1: 5 times 2, arm 0: 10 times 1
        Check.due("lead", x.better(2), 0);
        Check.due("ways", x.better(1), 3);
        Check.due("5 and 9", x.better(0), 2);
    }

    private static void tiesCount() {
        PloughField x = new PloughField();
        for (int i = 0; i < 4; i++) {
            x.strip(i % 2, 7);
        }
        Check.due("all alike", x.better(0), 6);
        Check.due("all", x.better(1), 6);
    }

    private static void twelve() {
        PloughField x = new PloughField();
        for (int i = 0; i < 12; i++) {
            x.strip(i < 6 ? 1 : 0, i < 6 ? 9999 : 0);
        }
        Check.due("the most", x.better(2), 6 * 6 * 9999);
        Check.due("924 ways", x.better(1), 924);
        Check.due("one as good", x.better(0), 1);
        PloughField y = new PloughField();
        for (int i = 0; i < 12; i++) {
            y.strip(i < 6 ? 0 : 1, i < 6 ? 9999 : 0);
        }
        Check.due("the least", y.better(2), -6 * 6 * 9999);
        Check.due("all as good", y.better(0), 924);
    }
}
