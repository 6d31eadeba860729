/** The edges of spots, pulls and strips: promises 21 to 24. */
public final class EdgeOutbreakTest {
    private static final int NO_ANSWER = -2000000000;
    private static final int LOW = Integer.MIN_VALUE;
    private static final int HIGH = Integer.MAX_VALUE;

    public static void main(String[] args) {
        spotWithoutIll();
        spotInNoDays();
        spotDays();
        spotNumbers();
        spotsOfAFullField();
        spotsAlongASnake();
        spotNotAcrossTheBorder();
        pullWithoutIll();
        pullMost();
        pullDays();
        pullWhats();
        pullOfAllIll();
        pullOfEightAndNine();
        pullFewestThenLeastBits();
        pullNotAcrossTheBorder();
        betterWithoutStrips();
        betterOfOneArm();
        betterOfTwelve();
        betterTies();
        betterOthers();
        stripsAtTheirLimits();
        Check.end();
    }

    private static PloughField planted(int... cells) {
        PloughField x = new PloughField();
        x.kind(true, 1, 80, 50, 50, 50);
        for (int cell : cells) {
            x.plant(cell);
        }
        return x;
    }

    private static PloughField fullField() {
        PloughField x = planted();
        for (int cell = 0; cell < 64; cell++) {
            x.plant(cell);
        }
        return x;
    }

    private static void spotWithoutIll() {
        PloughField x = planted(0, 63);
        for (int n = -1; n <= 65; n++) {
            Check.due("no plant, " + n + " days", new PloughField().spot(n, 0), -1);
            Check.due("none ill, " + n + " days", x.spot(n, 0), -1);
        }
    }

    private static void spotInNoDays() {
        PloughField x = planted(0, 1, 63);
        x.ill(63, true);
        Check.due("one ill: itself", x.spot(0, 0), 63);
        Check.due("no other", x.spot(0, 1), -1);
        x.ill(0, true);
        Check.due("two ill: none", x.spot(0, 0), -1);
        x.ill(63, false);
        Check.due("one ill: itself", x.spot(0, 0), 0);
    }

    private static void spotDays() {
        PloughField x = planted(0, 1);
        x.ill(0, true);
        int[] days = {-1, 0, 1, 64, 65, LOW, HIGH};
        int[] first = {-1, 0, 0, 0, -1, -1, -1};
        int[] second = {-1, -1, 1, 1, -1, -1, -1};
        for (int i = 0; i < days.length; i++) {
            Check.due("first in " + days[i], x.spot(days[i], 0), first[i]);
            Check.due("second in " + days[i], x.spot(days[i], 1), second[i]);
        }
    }

    private static void spotNumbers() {
        PloughField x = planted(3, 4, 5);
        x.ill(4, true);
        int[] numbers = {-1, 0, 1, 2, 3, 63, 64, LOW, HIGH};
        int[] want = {-1, 3, 4, 5, -1, -1, -1, -1, -1};
        for (int i = 0; i < numbers.length; i++) {
            Check.due("spot " + numbers[i], x.spot(1, numbers[i]), want[i]);
        }
    }

    private static void spotsOfAFullField() {
        PloughField x = fullField();
        for (int cell = 0; cell < 64; cell++) {
            x.ill(cell, true);
        }
        Check.due("7 days: none", x.spot(7, 0), -1);
        int[] middle = {27, 28, 35, 36, -1};
        for (int k = 0; k < middle.length; k++) {
            Check.due("8 days: " + k, x.spot(8, k), middle[k]);
        }
        Check.due("13 days: no corner", x.spot(13, 0), 1);
        Check.due("13 days: 60 of them", x.spot(13, 59), 62);
        Check.due("13 days: no more", x.spot(13, 60), -1);
        Check.due("14 days: all", x.spot(14, 0), 0);
        Check.due("14 days: all", x.spot(14, 63), 63);
        Check.due("14 days: no more", x.spot(14, 64), -1);
    }

    private static void spotsAlongASnake() {
        // rows 0, 2, 4 and 6 with one plant between each: 35 plants, 34 steps from 0 to the other end on 48
        PloughField x = planted();
        for (int row = 0; row < 8; row += 2) {
            for (int column = 0; column < 8; column++) {
                x.plant(8 * row + column);
            }
        }
        x.plant(15);
        x.plant(24);
        x.plant(47);
        x.ill(48, true);
        Check.due("33 steps: not from 0", x.spot(33, 0), 1);
        Check.due("34 steps: from 0", x.spot(34, 0), 0);
        Check.due("34 steps: 35 of them", x.spot(34, 34), 55);
        Check.due("no more", x.spot(34, 35), -1);
        Check.due("0 steps", x.spot(0, 0), 48);
        Check.due("the one beside it is pulled", x.pull(1, 34, 20), 1);
        x.ill(0, true);
        Check.due("both ends: the middle in 17", x.spot(17, 0), 24);
        Check.due("alone", x.spot(17, 1), -1);
        Check.due("not in 16", x.spot(16, 0), -1);
    }

    private static void spotNotAcrossTheBorder() {
        int[][] pairs = {{7, 8}, {0, 7}, {0, 56}, {0, 63}, {55, 56}, {15, 16}, {9, 18}, {9, 16}};
        for (int[] pair : pairs) {
            PloughField x = planted(pair);
            x.ill(pair[0], true);
            Check.due("itself", x.spot(64, 0), pair[0]);
            Check.due(pair[1] + " isn't beside it", x.spot(64, 1), -1);
            x.ill(pair[0], false);
            x.ill(pair[1], true);
            Check.due("itself", x.spot(64, 0), pair[1]);
            Check.due(pair[0] + " isn't beside it", x.spot(64, 1), -1);
        }
    }

    private static void pullWithoutIll() {
        PloughField x = planted(0, 1, 63);
        for (int what = -1; what <= 30; what++) {
            Check.due("no plant, " + what, new PloughField().pull(1, 1, what), -1);
            Check.due("none ill, " + what, x.pull(1, 1, what), -1);
        }
    }

    private static void pullMost() {
        PloughField x = planted(1, 8, 9, 10, 17);
        x.ill(9, true);
        int[] most = {-1, 0, 1, 2, 3, 4, LOW, HIGH};
        int[] want = {-1, -1, 4, 3, 2, -1, -1, -1};
        for (int i = 0; i < most.length; i++) {
            Check.due("pull of " + most[i], x.pull(most[i], 1, 0), want[i]);
            Check.due("choice 0 of " + most[i], x.pull(most[i], 1, 10), want[i] < 0 ? -1 : 1);
            Check.due("choice 0 of " + most[i] + " pulled", x.pull(most[i], 1, 20), want[i] < 0 ? -1 : 1);
        }
    }

    private static void pullDays() {
        // a row of eight, ill at its beginning, and one apart
        PloughField x = planted(0, 1, 2, 3, 4, 5, 6, 7, 16, 8);
        x.ill(0, true);
        int[] days = {-1, 0, 1, 2, 64, 65, LOW, HIGH};
        int[] want = {-1, 1, 2, 3, 3, -1, -1, -1};
        int[] pulled = {-1, 0, 1, 1, 1, -1, -1, -1};
        for (int i = 0; i < days.length; i++) {
            Check.due("come to in " + days[i], x.pull(1, days[i], 0), want[i]);
            Check.due("choice 0 in " + days[i], x.pull(1, days[i], 10), want[i] < 0 ? -1 : 1);
            Check.due("choice 0 pulled in " + days[i], x.pull(1, days[i], 20), pulled[i]);
            Check.due("choice 1 pulled in " + days[i], x.pull(1, days[i], 21), want[i] < 0 ? -1 : 0);
        }
    }

    private static void pullWhats() {
        PloughField x = planted(0, 1, 8);
        x.ill(0, true);
        for (int what = -2; what <= 32; what++) {
            int want = what == 0 ? 2 : what == 10 ? 1 : what == 11 ? 8 : what == 20 ? 1 : what == 21 ? 0 : -1;
            Check.due("what " + what, x.pull(1, 1, what), want);
        }
        Check.due("what low", x.pull(1, 1, LOW), -1);
        Check.due("what high", x.pull(1, 1, HIGH), -1);
    }

    private static void pullOfAllIll() {
        PloughField x = planted(0, 1, 63);
        x.ill(0, true);
        x.ill(1, true);
        x.ill(63, true);
        Check.due("all", x.pull(3, 64, 0), 3);
        Check.due("in no days", x.pull(3, 0, 0), 3);
        Check.due("no choice", x.pull(3, 64, 10), -1);
        Check.due("none pulled", x.pull(3, 64, 20), -1);
    }

    private static void pullOfEightAndNine() {
        // 9 and 13 are ill with four around each; then 33 too, beside 41
        PloughField x = planted(1, 5, 8, 9, 10, 12, 13, 14, 17, 21);
        x.ill(9, true);
        x.ill(13, true);
        Check.due("the eighth", x.pull(1, 1, 17), 21);
        Check.due("it isn't pulled", x.pull(1, 1, 27), 0);
        Check.due("no ninth", x.pull(1, 1, 18), -1);
        Check.due("no ninth", x.pull(1, 1, 28), -1);
        Check.due("three of eight", x.pull(3, 1, 0), 7);
        x.plant(33);
        x.plant(41);
        x.ill(41, true);
        Check.due("the eighth", x.pull(1, 1, 17), 21);
        Check.due("no ninth still", x.pull(1, 1, 18), -1);
        Check.due("33 can't be pulled", x.pull(3, 1, 0), 9);
        // what lies between 17 and 33 is come to from either side
        for (int cell : new int[] {25, 24, 32, 26, 27}) {
            x.plant(cell);
        }
        Check.due("17 holds no one back", x.pull(1, 64, 0), 16);
        // 33, the ninth, would keep 34, 35 and 36, but it isn't among the eight
        PloughField z = planted(1, 5, 8, 9, 10, 12, 13, 14, 17, 21, 33, 34, 35, 36, 41);
        for (int cell : new int[] {9, 13, 41}) {
            z.ill(cell, true);
        }
        Check.due("one of the eight", z.pull(1, 64, 0), 14);
        Check.due("three of the eight", z.pull(3, 64, 0), 12);
        z.ill(13, false);
        Check.due("33 is the fifth now", z.pull(1, 64, 14), 33);
        Check.due("and is pulled", z.pull(1, 64, 24), 1);
        PloughField y = planted(0, 1, 8, 63);
        y.ill(0, true);
        Check.due("the second of two is the last", y.pull(1, 1, 11), 8);
        Check.due("no third", y.pull(1, 1, 12), -1);
    }

    private static void pullFewestThenLeastBits() {
        // 1 or 8 alone doesn't keep 9, both do; with two allowed both go
        PloughField x = planted(0, 1, 8, 9);
        x.ill(0, true);
        Check.due("one: 1 is pulled, 8 and 9 are come to", x.pull(1, 2, 0), 3);
        Check.due("the least bits", x.pull(1, 2, 20), 1);
        Check.due("and not 8", x.pull(1, 2, 21), 0);
        Check.due("two", x.pull(2, 2, 0), 1);
        Check.due("both", x.pull(2, 2, 20) + x.pull(2, 2, 21), 2);
        Check.due("three: both are enough", x.pull(3, 2, 20) + x.pull(3, 2, 21), 2);
        // the second of two keeps more: its bits are higher, but fewer are come to
        PloughField y = planted(0, 1, 8, 16);
        y.ill(0, true);
        Check.due("8 is pulled", y.pull(1, 2, 21), 1);
        Check.due("1 isn't", y.pull(1, 2, 20), 0);
        Check.due("two are come to", y.pull(1, 2, 0), 2);
    }

    private static void pullNotAcrossTheBorder() {
        int[][] pairs = {{7, 8}, {0, 7}, {0, 56}, {0, 63}, {55, 56}, {9, 18}};
        for (int[] pair : pairs) {
            PloughField x = planted(pair);
            x.ill(pair[0], true);
            Check.due("alone", x.pull(1, 64, 0), 1);
            Check.due("no choice", x.pull(1, 64, 10), -1);
        }
        PloughField x = planted(0, 1, 8, 62, 55, 63);
        x.ill(0, true);
        x.ill(63, true);
        int[] near = {1, 8, 55, 62, -1};
        for (int k = 0; k < near.length; k++) {
            Check.due("beside the corners", x.pull(1, 1, 10 + k), near[k]);
        }
    }

    private static void better(String name, PloughField x, int better, int ways, int lead) {
        Check.due(name + ": better", x.better(0), better);
        Check.due(name + ": ways", x.better(1), ways);
        Check.due(name + ": lead", x.better(2), lead);
    }

    private static void betterWithoutStrips() {
        better("none", new PloughField(), 1, 1, 0);
    }

    private static void betterOfOneArm() {
        for (int arm = 0; arm <= 1; arm++) {
            PloughField x = new PloughField();
            for (int i = 0; i < 12; i++) {
                x.strip(arm, 9999);
                better("arm " + arm + " alone", x, 1, 1, 0);
            }
        }
    }

    private static void betterOfTwelve() {
        // one strip of arm 1: the best, the second, the last of twelve
        int[] places = {0, 1, 11};
        for (int place : places) {
            PloughField x = new PloughField();
            int others = 0;
            for (int i = 0; i < 12; i++) {
                x.strip(i == place ? 1 : 0, 9999 - i * 900);
                others += i == place ? 0 : 9999 - i * 900;
            }
            better("place " + place, x, place + 1, 12, (9999 - place * 900) * 11 - others);
        }
        PloughField x = new PloughField();
        for (int i = 0; i < 12; i++) {
            x.strip(i == 0 ? 0 : 1, i == 0 ? 9999 : 0);
        }
        better("the worst", x, 12, 12, -11 * 9999);
    }

    private static void betterTies() {
        PloughField x = new PloughField();
        x.strip(1, 0);
        x.strip(0, 0);
        better("both 0", x, 2, 2, 0);
        x.strip(1, 9999);
        better("0, 9,999 against 0", x, 2, 3, 9999);
        x.strip(0, 9999);
        better("alike", x, 5, 6, 0);
    }

    private static void betterOthers() {
        PloughField x = new PloughField();
        x.strip(1, 5);
        int[] whats = {-1, 3, LOW, HIGH};
        for (int what : whats) {
            Check.due("others " + what, x.better(what), NO_ANSWER);
        }
    }

    private static void stripsAtTheirLimits() {
        PloughField x = new PloughField();
        Check.due("arm 0, crop 0", x.strip(0, 0), 0);
        Check.due("arm 1, crop 9,999", x.strip(1, 9999), 1);
        Check.due("arm 2", x.strip(2, 5), -1);
        Check.due("arm -1", x.strip(-1, 5), -1);
        Check.due("crop -1", x.strip(0, -1), -1);
        Check.due("crop 10,000", x.strip(0, 10000), -1);
        better("two", x, 1, 2, 9999);
        for (int i = 2; i < 12; i++) {
            Check.due("strip " + i, x.strip(i % 2, 0), i);
        }
        Check.due("a thirteenth", x.strip(0, 0), -1);
        better("twelve: arm 1 has the one that bears", x, 462, 924, 6 * 9999);
    }
}
