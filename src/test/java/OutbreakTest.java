/** Promises 21 and 22: the spots an illness may have come from, and what to pull. */
public final class OutbreakTest {
    public static void main(String[] args) {
        promise21Spot();
        spotsThroughPlantsAlone();
        spotOfTwoParts();
        spotAcrossTheField();
        promise22Pull();
        pullTies();
        pullTwoBeatsOne();
        pullFirstEight();
        pullWithoutChoices();
        pullTheFirstCell();
        Check.end();
    }

    private static PloughField planted(int... cells) {
        PloughField x = new PloughField();
        x.kind(true, 1, 80, 50, 50, 50);
        for (int cell : cells) {
            x.plant(cell);
        }
        return x;
    }

    private static void promise21Spot() {
        PloughField x = planted(0, 1, 2, 3, 4);
        Check.due("none ill", x.spot(5, 0), -1);
        x.ill(1, true);
        Check.due("one ill, 0 days", x.spot(0, 0), 1);
        Check.due("no more", x.spot(0, 1), -1);
        x.ill(3, true);
        Check.due("two ill, 0 days", x.spot(0, 0), -1);
        Check.due("1 day", x.spot(1, 0), 2);
        Check.due("1 day, no more", x.spot(1, 1), -1);
        int[] two = {1, 2, 3};
        for (int k = 0; k < 3; k++) {
            Check.due("2 days " + k, x.spot(2, k), two[k]);
        }
        Check.due("2 days, no more", x.spot(2, 3), -1);
        Check.due("3 days", x.spot(3, 4), 4);
        Check.due("64 days", x.spot(64, 4), 4);
        Check.due("65 days", x.spot(65, 0), -1);
        Check.due("-1 days", x.spot(-1, 0), -1);
        Check.due("k -1", x.spot(3, -1), -1);
        Check.due("k high", x.spot(3, Integer.MAX_VALUE), -1);
        Check.due("n low", x.spot(Integer.MIN_VALUE, 0), -1);
    }

    private static void spotsThroughPlantsAlone() {
        PloughField x = planted(0, 2);
        x.ill(0, true);
        Check.due("itself", x.spot(64, 0), 0);
        Check.due("2 can't come to 0", x.spot(64, 1), -1);
    }

    private static void spotOfTwoParts() {
        PloughField x = planted(0, 1, 40, 41);
        x.ill(0, true);
        x.ill(41, true);
        Check.due("none comes to both", x.spot(64, 0), -1);
    }

    private static void spotAcrossTheField() {
        PloughField x = planted(7, 8);
        x.ill(7, true);
        Check.due("7", x.spot(64, 0), 7);
        Check.due("8 is not beside 7", x.spot(64, 1), -1);
        PloughField y = new PloughField();
        y.kind(true, 1, 80, 50, 50, 50);
        for (int cell = 0; cell < 64; cell++) {
            y.plant(cell);
        }
        y.ill(0, true);
        Check.due("14 steps", y.spot(14, 63), 63);
        Check.due("13 steps", y.spot(13, 63), -1);
        Check.due("13 steps", y.spot(13, 62), 62);
    }

    private static void promise22Pull() {
        PloughField x = planted(0, 1, 2, 3, 8, 16);
        Check.due("no ill one", x.pull(1, 3, 0), -1);
        Check.due("no ill one", x.pull(1, 3, 10), -1);
        x.ill(0, true);
        Check.due("pull 1: 1 leads to three", x.pull(1, 3, 0), 3);
        Check.due("choice 0", x.pull(1, 3, 10), 1);
        Check.due("choice 1", x.pull(1, 3, 11), 8);
        Check.due("no choice 2", x.pull(1, 3, 12), -1);
        Check.due("1 is pulled", x.pull(1, 3, 20), 1);
        Check.due("8 is not", x.pull(1, 3, 21), 0);
        Check.due("no choice 2", x.pull(1, 3, 22), -1);
        Check.due("pull 2", x.pull(2, 3, 0), 1);
        Check.due("both", x.pull(2, 3, 20), 1);
        Check.due("both", x.pull(2, 3, 21), 1);
        Check.due("pull 3: as 2", x.pull(3, 3, 0), 1);
        int[][] wrong = {{0, 3, 0}, {4, 3, 0}, {1, -1, 0}, {1, 65, 0}, {1, 3, -1}, {1, 3, 1}, {1, 3, 9}, {1, 3, 18},
            {1, 3, 19}, {1, 3, 28}, {Integer.MIN_VALUE, 3, 0}, {1, Integer.MAX_VALUE, 0}, {1, 3, Integer.MAX_VALUE}};
        for (int[] w : wrong) {
            Check.due("pull wrong " + w[0] + " " + w[1] + " " + w[2], x.pull(w[0], w[1], w[2]), -1);
        }
    }

    private static void pullTies() {
        // on one day both choices save one plant: the least bits are those of the first
        PloughField x = planted(0, 1, 2, 3, 8, 16);
        x.ill(0, true);
        Check.due("1 day", x.pull(1, 1, 0), 2);
        Check.due("the first", x.pull(1, 1, 20), 1);
        Check.due("not the second", x.pull(1, 1, 21), 0);
        // without days nothing is saved: the fewest plants are none
        Check.due("0 days", x.pull(3, 0, 0), 1);
        Check.due("none", x.pull(3, 0, 20), 0);
        Check.due("none", x.pull(3, 0, 21), 0);
    }

    private static void pullTwoBeatsOne() {
        // 9 is ill with 1, 8, 10, 17 around it: each pulled one is one less, three at most
        PloughField x = planted(1, 8, 9, 10, 17);
        x.ill(9, true);
        for (int m = 1; m <= 3; m++) {
            Check.due("pull " + m, x.pull(m, 5, 0), 5 - m);
            for (int k = 0; k < 4; k++) {
                Check.due("pulled " + m + " " + k, x.pull(m, 5, 20 + k), k < m ? 1 : 0);
            }
        }
    }

    private static void pullFirstEight() {
        // ill 9, 13, 41: twelve plants around them, of which the first eight may be pulled
        PloughField x = planted(1, 5, 8, 9, 10, 12, 13, 14, 17, 21, 33, 40, 41, 42, 49, 6);
        x.ill(9, true);
        x.ill(13, true);
        x.ill(41, true);
        int[] eight = {1, 5, 8, 10, 12, 14, 17, 21};
        for (int k = 0; k < 8; k++) {
            Check.due("choice " + k, x.pull(1, 2, 10 + k), eight[k]);
        }
        Check.due("no ninth", x.pull(1, 2, 18), -1);
        Check.due("no ninth", x.pull(1, 2, 28), -1);
        // 5 and 14 both lead to 6, so each of the eight saves one plant: the first is pulled
        Check.due("one", x.pull(1, 2, 0), 15);
        Check.due("the first", x.pull(1, 2, 20), 1);
        Check.due("two: 5 and 14 keep 6 too", x.pull(2, 2, 0), 13);
        Check.due("5", x.pull(2, 2, 21), 1);
        Check.due("14", x.pull(2, 2, 25), 1);
        Check.due("not 1", x.pull(2, 2, 20), 0);
        Check.due("three", x.pull(3, 2, 0), 12);
        Check.due("1 too", x.pull(3, 2, 20), 1);
    }

    private static void pullTheFirstCell() {
        PloughField x = planted(0, 1, 8, 63);
        x.ill(1, true);
        Check.due("choice 0", x.pull(1, 2, 10), 0);
        Check.due("0 keeps 8", x.pull(1, 2, 0), 1);
        Check.due("0 is pulled", x.pull(1, 2, 20), 1);
        PloughField y = planted(55, 62, 63);
        y.ill(62, true);
        Check.due("choice 0", y.pull(1, 2, 10), 63);
        Check.due("63 keeps 55", y.pull(1, 2, 0), 1);
    }

    private static void pullWithoutChoices() {
        PloughField x = planted(0, 63);
        x.ill(0, true);
        Check.due("itself alone", x.pull(1, 9, 0), 1);
        Check.due("no choice", x.pull(1, 9, 10), -1);
        Check.due("no choice", x.pull(1, 9, 20), -1);
    }
}
