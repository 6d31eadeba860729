/**
 * A state that is made by calls, and whether more calls in it do nothing: of two objects made alike one is
 * given those calls, and then both must answer the same, whatever they are asked, at once and later on.
 * No object is asked more than the 512 calls for which the document speaks.
 */
final class Twins {
    private static final int MOST_CALLS = 512;
    private static final Run QUESTIONS = questions();
    private static final Run LATER = later();

    private final String name;
    private final Run state;

    Twins(String name, Run state) {
        this.name = name;
        this.state = state;
    }

    /** Each of the calls is due the same answer, and none of them changes a later one. */
    void nothing(String what, long answer, Run calls) {
        Check.due(name + ", " + what + ": some calls are made", calls.size() > 0, true);
        compare(what, answer, calls, new Run());
        compare(what + ", later", answer, calls, LATER);
    }

    /** No question changes a later answer. */
    void questionsChangeNothing() {
        for (int from = 0; from < QUESTIONS.size(); from += 100) {
            Run some = new Run();
            for (int i = from; i < QUESTIONS.size() && i < from + 100; i++) {
                some.does(QUESTIONS.at(i));
            }
            compareAnswers("questions from " + from, some, new Run());
            compareAnswers("questions from " + from + ", later", some, LATER);
        }
    }

    private void compare(String what, long answer, Run calls, Run after) {
        PloughField x = state.make();
        for (int i = 0; i < calls.size(); i++) {
            Check.due(name + ", " + what + ", call " + i, calls.at(i).on(x), answer);
        }
        compareAnswers(what, calls, after);
    }

    private void compareAnswers(String what, Run calls, Run after) {
        int most = MOST_CALLS - state.size() - calls.size() - after.size();
        if (most < 1) {
            Check.due(name + ", " + what + ": calls that are left to ask", most, 1);
            return;
        }
        for (int from = 0; from < QUESTIONS.size(); from += most) {
            PloughField touched = state.make();
            PloughField plain = state.make();
            calls.playOn(touched);
            long[] first = after.playOn(touched);
            long[] second = after.playOn(plain);
            for (int i = 0; i < first.length; i++) {
                Check.due(name + ", " + what + ": later call " + i, first[i], second[i]);
            }
            for (int i = from; i < QUESTIONS.size() && i < from + most; i++) {
                Check.due(name + ", " + what + ": question " + i, QUESTIONS.at(i).on(touched), QUESTIONS.at(i).on(plain));
            }
        }
    }

    private static Run questions() {
        Run all = new Run();
        askCounts(all);
        askCells(all);
        askCarts(all);
        askWorks(all);
        askOutbreaks(all);
        askAgain(all);
        return all;
    }

    private static void askCounts(Run all) {
        for (int what = 0; what <= 16; what++) {
            int w = what;
            all.does(x -> x.count(w));
        }
        for (int what = 0; what <= 2; what++) {
            int w = what;
            all.does(x -> x.water(w)).does(x -> x.better(w));
        }
        all.does(x -> x.fault());
    }

    private static void askCells(Run all) {
        for (int cell = 0; cell < 64; cell++) {
            int c = cell;
            for (int what = 0; what <= 10; what++) {
                int w = what;
                all.does(x -> x.cell(c, w));
            }
            for (int kind = 0; kind < 5; kind++) {
                int k = kind;
                all.does(x -> x.share(c, k));
            }
            for (int what = 0; what <= 2; what++) {
                int w = what;
                all.does(x -> x.act(c, w));
            }
        }
    }

    private static void askCarts(Run all) {
        for (int cart = 0; cart < 8; cart++) {
            int k = cart;
            for (int what = 0; what <= 163; what += what == 5 ? 95 : 1) {
                int w = what;
                all.does(x -> x.told(k, w));
            }
            for (int cell = cart; cell < 64; cell += 5) {
                int c = cell;
                for (int what = 0; what <= 2; what++) {
                    int w = what;
                    all.does(x -> x.way(k, c, w));
                }
            }
        }
    }

    private static void askWorks(Run all) {
        for (int work = 0; work < 60; work++) {
            int k = work;
            for (int what = 0; what <= 4; what++) {
                int w = what;
                all.does(x -> x.job(k, w));
            }
        }
    }

    private static void askOutbreaks(Run all) {
        int[] days = {0, 1, 2, 64};
        for (int n : days) {
            for (int spot = 0; spot < 6; spot++) {
                int k = spot;
                all.does(x -> x.spot(n, k));
            }
            for (int most = 1; most <= 3; most++) {
                int m = most;
                all.does(x -> x.pull(m, n, 0));
                for (int k = 0; k < 8; k++) {
                    int one = k;
                    all.does(x -> x.pull(m, n, 10 + one)).does(x -> x.pull(m, n, 20 + one));
                }
            }
        }
    }

    private static void askAgain(Run all) {
        int[] cells = {0, 1, 9, 18, 27, 63};
        int[] whats = {1, 2, 4, 5, 10};
        for (int without = 0; without <= 2; without++) {
            for (int number = 0; number <= 7; number += 7) {
                int leftOut = without;
                int k = number;
                for (int c : cells) {
                    for (int w : whats) {
                        all.does(x -> x.again(leftOut, k, c, w));
                    }
                }
            }
        }
    }

    /** Something of every sort, so that what was left behind somewhere comes to light. */
    private static Run later() {
        Run all = new Run();
        all.does(x -> x.plan(9)).does(x -> x.plan(27)).does(x -> x.plan(63));
        all.does(x -> x.rules(5)).feeds("take if wet>3;look;").does(x -> x.rules(19)).does(x -> x.fault());
        all.does(x -> x.plan(9)).does(x -> x.plan(18));
        all.asks(x -> x.charge(0)).asks(x -> x.charge(7));
        all.does(x -> x.kind(true, 7, 20, 30, 40, 50)).asks(x -> x.plant(0)).asks(x -> x.plant(9));
        all.does(x -> x.lot(3)).does(x -> x.strip(1, 77)).asks(x -> x.land(18, 3, 444)).asks(x -> x.show(9, 5));
        all.does(x -> x.cart(0, 3, 333, 0, 33)).does(x -> x.work(0, 9, 0)).does(x -> x.work(3, 16, 0));
        all.does(x -> x.rain(44, 45, 5)).does(x -> x.rain(719, 719, 5));
        all.asks(x -> x.ill(9, true)).asks(x -> x.look(9, 3)).asks(x -> x.set(3, 5));
        all.does(x -> x.pass(1)).does(x -> x.pass(24)).does(x -> x.pass(3));
        return all;
    }
}
