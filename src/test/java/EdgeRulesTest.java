/** The edges of the tape, the rules, their faults, acts and plans: part 4 of the document and promises 25 to 29. */
public final class EdgeRulesTest {
    private static final int NO_ACT = -2000000000;
    private static final int LOW = Integer.MIN_VALUE;
    private static final int HIGH = Integer.MAX_VALUE;
    private static final String[] OPEN = {"not ", "[", "("};

    public static void main(String[] args) {
        tapeTakes500();
        tapeIsReadToItsLastByte();
        tapeTakesTheHighestByteFirst();
        rulesTakeFrom0ToAllBytes();
        rulesEmptyTheTape();
        rulesReadNoMoreThanTold();
        eightRules();
        refusedRulesLeaveTheFault();
        emptyRules();
        numbersOfDigits();
        wordsOfLetters();
        blanksAre32And10();
        bytesThatBeginNone();
        nineOpen();
        tenthOpenOfEachSort();
        closedOnesDontCount();
        statements24();
        moreMustCome();
        faultIsTheFirst();
        heldAtTheMost();
        heldAtTheLeast();
        heldStepByStep();
        dividedTowards0();
        dividedBy0();
        comparedAtEquals();
        wordsAtTheirEdges();
        rainWordAtItsEdges();
        actEdges();
        actOfTheLastStatement();
        actOfNone();
        planHeldFrom1To999();
        planRefusals();
        planAsThe60thAndTheLast();
        Check.end();
    }

    private static void tapeTakes500() {
        PloughField x = new PloughField();
        for (int i = 1; i <= 25; i++) {
            Check.due("feed " + i, x.feed(i, i, i, i, i), 20 * i);
        }
        Check.due("a twenty-sixth", x.feed(1, 1, 1, 1, 1), -1);
        Check.due("500", x.count(14), 500);
        Check.due("501 can't be read", x.rules(501), -2);
        Check.due("500 can", x.rules(500), -1);
        Check.due("and the tape takes anew", x.feed(1, 1, 1, 1, 1), 20);
    }

    private static void tapeIsReadToItsLastByte() {
        String[] ends = {"take;", "take", "tak", "give 1", "give 12345", "give 123456", "take if wet<1;", "look if we",
            "take if given<1;", "take if give", ";", "#", "7"};
        int[] faults = {-1, 500, 497, 500, 500, 494, -1, 498, -1, 496, 499, 499, 499};
        for (int i = 0; i < ends.length; i++) {
            fault(" ".repeat(500 - ends[i].length()) + ends[i], faults[i]);
        }
    }

    private static void tapeTakesTheHighestByteFirst() {
        // "take;" and bytes 128 to 255, the sign of a number among them
        PloughField x = new PloughField();
        x.feed(0x74616b65, 0x3b80ff00, -1, LOW, HIGH);
        Check.due("take", x.rules(5), 0);
        int[] bytes = {128, 255, 0, 255, 255, 255, 255, 128, 0, 0, 0, 127, 255, 255, 255};
        for (int i = 0; i < bytes.length; i++) {
            PloughField y = new PloughField();
            y.feed(0x74616b65, 0x3b80ff00, -1, LOW, HIGH);
            Check.due("byte " + bytes[i] + " begins none", y.rules(6 + i), -1);
            Check.due("the first of them is the fault", y.fault(), 5);
        }
        PloughField z = new PloughField();
        z.feed(0x20202020, 0x2020200a, 0x0a0a6c6f, 0x6f6b0a3b, 0x0a202020);
        Check.due("look", z.rules(20), 0);
        Check.due("one statement", z.count(13), 1);
    }

    private static void rulesTakeFrom0ToAllBytes() {
        PloughField x = new PloughField();
        Check.due("-1", x.rules(-1), -2);
        Check.due("1 of 0", x.rules(1), -2);
        Check.due("0 of 0", x.rules(0), 0);
        Check.feed(x, "take;");
        Check.due("21 of 20", x.rules(21), -2);
        Check.due("-1 of 20", x.rules(-1), -2);
        Check.due("low", x.rules(LOW), -2);
        Check.due("high", x.rules(HIGH), -2);
        Check.due("20 of 20", x.rules(20), 1);
        Check.feed(x, "take;");
        Check.due("0 of 20", x.rules(0), 2);
        Check.due("no statements", x.count(13), 0);
    }

    private static void rulesEmptyTheTape() {
        PloughField x = new PloughField();
        Check.feed(x, "take;look;");
        Check.due("five of twenty", x.rules(5), 0);
        Check.due("empty", x.count(14), 0);
        Check.due("nothing is left", x.rules(1), -2);
        Check.feed(x, "take");
        Check.due("a fault", x.rules(4), -1);
        Check.due("empty", x.count(14), 0);
        Check.feed(x, "take;");
        Check.due("none", x.rules(0), 1);
        Check.due("empty", x.count(14), 0);
        Check.due("the tape begins anew", x.feed(0x6c6f6f6b, 0x3b202020, 0, 0, 0), 20);
        Check.due("look", x.rules(8), 2);
    }

    private static void rulesReadNoMoreThanTold() {
        int[] faults = {-1, 0, 0, 0, 4, -1, 5, 5, 5, 9, -1};
        for (int n = 0; n < faults.length; n++) {
            PloughField x = new PloughField();
            Check.feed(x, "take;look;leave;");
            Check.due("the first " + n, x.rules(n), faults[n] < 0 ? 0 : -1);
            Check.due("fault of the first " + n, x.fault(), faults[n]);
        }
    }

    private static void eightRules() {
        PloughField x = planted();
        for (int i = 0; i < 8; i++) {
            Check.due("a fault isn't told", Check.rules(x, "take"), -1);
            Check.due("rules " + i, Check.rules(x, i < 7 ? "look;" : "leave;"), i);
            Check.due("rules", x.count(12), i + 1);
        }
        Check.due("the eighth is in force", x.act(9, 1), 2);
        Check.feed(x, "take;");
        Check.due("a ninth", x.rules(5), -3);
        Check.due("a ninth of none", x.rules(0), -3);
        Check.due("a ninth with a fault", x.rules(3), -3);
        Check.due("more than there are", x.rules(21), -2);
        Check.due("below 0", x.rules(-1), -2);
        Check.due("the tape is as it was", x.count(14), 20);
        Check.due("the eighth is in force still", x.act(9, 1), 2);
        Check.due("eight", x.count(12), 8);
        Check.due("no fault", x.fault(), -1);
    }

    private static void refusedRulesLeaveTheFault() {
        PloughField x = new PloughField();
        Check.due("none at first", x.fault(), -1);
        x.rules(-1);
        x.rules(1);
        Check.due("none still", x.fault(), -1);
        Check.rules(x, "take;x");
        Check.due("5", x.fault(), 5);
        x.rules(-1);
        x.rules(1);
        x.feed(0, 0, 0, 0, 0);
        Check.due("5 still", x.fault(), 5);
        x.rules(1);
        Check.due("0", x.fault(), 0);
        x.rules(0);
        Check.due("none", x.fault(), -1);
    }

    private static void emptyRules() {
        PloughField x = planted();
        Check.rules(x, "take;");
        Check.due("take", x.act(9, 1), 0);
        Check.due("blanks alone", Check.rules(x, " \n\n "), 1);
        Check.due("no statements", x.count(13), 0);
        Check.due("no act", x.act(9, 0), NO_ACT);
        Check.due("no plan", x.plan(9), -1);
    }

    private static PloughField planted() {
        PloughField x = new PloughField();
        x.kind(true, 1, 80, 50, 50, 50);
        x.kind(false, 3, 20, 50, 50, 50);
        x.plant(9);
        return x;
    }

    /** The rules of this text are refused at this place; -1: they are taken. */
    private static void fault(String text, int place) {
        PloughField x = new PloughField();
        Check.due("rules of <" + text + ">", Check.rules(x, text), place < 0 ? 0 : -1);
        Check.due("fault of <" + text + ">", x.fault(), place);
    }

    private static void tells(String ex, int want) {
        PloughField x = planted();
        Check.due("rules of " + ex, Check.rules(x, "give " + ex + ";"), 0);
        Check.due(ex, x.act(9, 2), want);
    }

    private static void numbersOfDigits() {
        tells("0", 0);
        tells("9", 9);
        tells("00000", 0);
        tells("00009", 9);
        tells("99999", 99999);
        fault("give 99999;", -1);
        fault("give 100000;", 5);
        fault("give 000000;", 5);
        fault("give 1+000001;", 7);
        fault("give 1 + 9999999999999;", 9);
        fault("give 12345 6;", 11);
        fault("give;", 4);
        fault("take if wet<123456;", 12);
        fault("123456", 0);
    }

    private static void wordsOfLetters() {
        String[] words = {"weed", "wet", "press", "looks", "size", "ill", "rain", "given"};
        for (String word : words) {
            fault("give " + word + ";", -1);
            fault("give " + word + "x;", 5);
            fault("give " + word.substring(0, word.length() - 1) + ";", 5);
            fault("give x" + word + ";", 5);
            fault("give " + word.substring(1) + ";", 5);
            fault("give " + word + word + ";", 5);
            fault("give" + word + ";", 0);
            fault("give " + word + " " + word + ";", 6 + word.length());
            fault(word + ";", 0);
        }
        String[] deeds = {"take", "look", "leave", "give 1"};
        for (String deed : deeds) {
            fault(deed + ";", -1);
            fault(deed + " if 1<2;", -1);
            fault(deed + "\nif 1<2\n;", -1);
            fault(deed + " iff 1<2;", deed.length() + 1);
            fault(deed + " i 1<2;", deed.length() + 1);
            fault("x" + deed + ";", 0);
            fault(deed.substring(1) + ";", 0);
        }
        fault("give look;", 5);
        fault("give looks;", -1);
        fault("looks;", 0);
        fault("give given;", -1);
        fault("given;", 0);
        fault("takeif 1<2;", 0);
        fault("take if1<2;", -1);
        fault("take if 1<2and 1<2;", -1);
        fault("take if 1<2or 1<2;", -1);
        fault("take if 1<2 and1<2;", -1);
        fault("take if 1<2 andnot 1<2;", 12);
        fault("take if not1<2;", -1);
        fault("take if notnot 1<2;", 8);
        fault("take if wet<2 xor 1<2;", 14);
    }

    private static void blanksAre32And10() {
        fault(" \n take \n ; \n", -1);
        int[] others = {9, 11, 12, 13, 160, 0, 133};
        for (int other : others) {
            fault("take" + (char) other + ";", 4);
            fault((char) other + "take;", 0);
            fault("take;" + (char) other, 5);
        }
        fault("give 1 0;", 7);
        fault("ta\nke;", 0);
    }

    private static void bytesThatBeginNone() {
        String good = ";+-*/()[]<>= \n";
        for (int sign = 0; sign < 256; sign++) {
            boolean isWord = sign >= 'a' && sign <= 'z';
            boolean isDigit = sign >= '0' && sign <= '9';
            if (isWord || isDigit || good.indexOf((char) sign) >= 0) {
                continue;
            }
            fault("give 1" + (char) sign + "1;", 6);
            fault("take if " + (char) sign + "1<2;", 8);
        }
        fault("give 1" + (char) ('a' - 1) + ";", 6);
        fault("give 1" + (char) ('z' + 1) + ";", 6);
        fault("give 1" + (char) ('9' + 1) + ";", 6);
    }

    /** A condition with these open in one another, 0 "not", 1 "[", 2 "(" (which can only come last). */
    private static String nested(int... sorts) {
        StringBuilder text = new StringBuilder("take if ");
        for (int sort : sorts) {
            text.append(OPEN[sort]);
        }
        text.append('1');
        for (int i = sorts.length - 1; i >= 0; i--) {
            boolean isLastOfThose = sorts[i] == 2 && (i == 0 || sorts[i - 1] != 2);
            text.append(sorts[i] == 2 ? ")" : sorts[i] == 1 ? "]" : "");
            if (isLastOfThose) {
                text.append("<2");
            }
        }
        String all = text.toString();
        return (all.indexOf('<') < 0 ? all.replaceFirst("1", "1<2") : all) + ";";
    }

    private static int[] sorts(int nots, int brackets, int rounds) {
        int[] all = new int[nots + brackets + rounds];
        for (int i = 0; i < all.length; i++) {
            all[i] = i < nots ? 0 : i < nots + brackets ? 1 : 2;
        }
        return all;
    }

    private static void nineOpen() {
        for (int nots = 0; nots <= 9; nots++) {
            for (int brackets = 0; nots + brackets <= 9; brackets++) {
                fault(nested(sorts(nots, brackets, 9 - nots - brackets)), -1);
            }
        }
        fault("give " + "(".repeat(9) + "1" + ")".repeat(9) + ";", -1);
        fault("take if [not [not [not [not [1<(2)]]]]];", 31);
        fault("take if [not [not [not [not 1<(2)]]]];", -1);
    }

    private static void tenthOpenOfEachSort() {
        for (int nots = 0; nots <= 10; nots++) {
            for (int brackets = 0; nots + brackets <= 10; brackets++) {
                int rounds = 10 - nots - brackets;
                int last = rounds > 0 ? 1 : brackets > 0 ? 1 : 4;
                fault(nested(sorts(nots, brackets, rounds)), 8 + 4 * nots + brackets + rounds - last);
            }
        }
        fault("give " + "(".repeat(10) + "1" + ")".repeat(10) + ";", 14);
        fault("give 1+" + "(".repeat(8) + "1*((1))" + ")".repeat(8) + ";", 7 + 8 + 3);
        fault("take if 1<2 or " + "not ".repeat(10) + "1<2;", 15 + 36);
    }

    private static void closedOnesDontCount() {
        fault("give " + "(1)+".repeat(30) + "1;", -1);
        fault("take if " + "[1<2]or ".repeat(30) + "1<2;", -1);
        fault("take if " + "not 1<2 or ".repeat(20) + "1<2;", -1);
        fault("take if " + "not ".repeat(9) + "1<2 and " + "not ".repeat(9) + "1<2;", -1);
        fault("take if " + "[".repeat(9) + "1<2" + "]".repeat(9) + "and " + "[".repeat(9) + "1<2" + "]".repeat(9) + ";", -1);
        fault("give " + "(".repeat(9) + "1" + ")".repeat(9) + "+" + "(".repeat(9) + "1" + ")".repeat(9) + ";", -1);
        fault("give " + "(".repeat(9) + "1" + ")".repeat(9) + " if " + "[".repeat(9) + "1<2" + "]".repeat(9) + ";", -1);
        fault("take if " + "(".repeat(9) + "1" + ")".repeat(9) + "<" + "(".repeat(9) + "1" + ")".repeat(9) + ";", -1);
        fault("take if not 1<2 and [not " + "(".repeat(7) + "1" + ")".repeat(7) + "<2 or not [1<2]];", -1);
    }

    private static void statements24() {
        PloughField x = planted();
        Check.due("24", Check.rules(x, "take if 1<1;".repeat(23) + "look;"), 0);
        Check.due("24 statements", x.count(13), 24);
        Check.due("the last one holds", x.act(9, 0), 23);
        String many = "look;".repeat(24);
        fault(many, -1);
        fault(many + "\n \n", -1);
        fault(many + "look;", 120);
        fault(many + " \n look;", 123);
        fault(many + "look", 120);
        fault(many + "l", 120);
        fault(many + ";", 120);
        fault(many + "7", 120);
        fault(many + "#", 120);
        fault("look;".repeat(23) + "look", 119);
        fault("look;".repeat(23) + "l;", 115);
        fault("look;".repeat(99) + "look", 120);
    }

    private static void moreMustCome() {
        String whole = "give ( 1 + wet ) * 2 if not [ 1 < 2 ] and 3 = 4 or 5 > 6 ;";
        fault(whole, -1);
        // where a text may end in the midst of what must come: behind each token but the last
        for (int end = 1; end < whole.length(); end++) {
            if (whole.charAt(end) == ' ') {
                fault(whole.substring(0, end), end);
                fault(whole.substring(0, end + 1), end + 1);
            }
        }
        fault("take;take", 9);
        fault("take;take ", 10);
        fault("take;\n\ntake\n\n", 13);
    }

    private static void faultIsTheFirst() {
        fault("take; take if; take if;", 13);
        fault("give (1;2);", 7);
        fault("give (((1));", 11);
        fault("give 1));", 6);
        fault("take if [[1<2];", 14);
        fault("take if [1<2]];", 13);
        fault("take if (1<2);", 10);
        fault("take if [1]<2;", 10);
        fault("take if 1<2=3;", 11);
        fault("take if 1==2;", 10);
        fault("take if <2;", 8);
        fault("take if 1<;", 10);
        fault("take if -1<2;", 8);
        fault("give *2;", 5);
        fault("give 1**2;", 7);
        fault("give 1/;", 7);
        fault("take take;", 5);
        fault("leave 1;", 6);
        fault("if 1<2;", 0);
        fault("take if and;", 8);
        fault("take if 1<2 and or 1<2;", 16);
        fault("take if 1<2 and not;", 19);
        fault("take if [];", 9);
        fault("take if not not;", 15);
        fault("take ( 1 );", 5);
    }

    private static void heldAtTheMost() {
        tells("99999*10000", 999990000);
        tells("99999*10000+9999", 999999999);
        tells("99999*10000+9999+1", 1000000000);
        tells("99999*10000+9999+2", 1000000000);
        tells("50000*20000", 1000000000);
        tells("50000*20001", 1000000000);
        tells("99999*99999", 1000000000);
        tells("50000*20000*99999", 1000000000);
        tells("50000*20000+50000*20000", 1000000000);
        tells("50000*20000-1", 999999999);
    }

    private static void heldAtTheLeast() {
        tells("0-99999*10000-9999", -999999999);
        tells("0-99999*10000-9999-1", -1000000000);
        tells("0-99999*10000-9999-2", -1000000000);
        tells("(0-50000)*20000", -1000000000);
        tells("(0-50000)*20001", -1000000000);
        tells("0-50000*20000-50000*20000", -1000000000);
        tells("50000*20000*(0-50000*20000)", -1000000000);
        tells("(0-50000*20000)*(0-50000*20000)", 1000000000);
        tells("0-50000*20000+1", -999999999);
    }

    private static void heldStepByStep() {
        tells("99999*99999-99999*99999", 0);
        tells("99999*99999/2", 500000000);
        tells("99999*99999+1-1", 999999999);
        tells("0-99999*99999-1+1", -999999999);
        tells("99999*99999*99999/99999/10000", 1);
        tells("1+99999*99999", 1000000000);
        tells("99999*(99999*99999)/50000", 20000);
    }

    private static void dividedTowards0() {
        tells("6/3", 2);
        tells("7/3", 2);
        tells("8/3", 2);
        tells("2/3", 0);
        tells("(0-7)/3", -2);
        tells("(0-8)/3", -2);
        tells("(0-2)/3", 0);
        tells("8/(0-3)", -2);
        tells("(0-8)/(0-3)", 2);
        tells("1/99999", 0);
        tells("(0-50000*20000)/(0-1)", 1000000000);
        tells("50000*20000/(0-1)", -1000000000);
        tells("0/5", 0);
    }

    private static void dividedBy0() {
        tells("0/0", 0);
        tells("1/0", 0);
        tells("99999/0", 0);
        tells("(0-1)/0", 0);
        tells("7/(3-3)+2", 2);
        tells("5*(1/0)", 0);
        tells("wet/wet", 0);
        PloughField x = planted();
        Check.rules(x, "take if 1/0=0;");
        Check.due("it holds", x.act(9, 0), 0);
    }

    private static void comparedAtEquals() {
        String[] signs = {"<", ">", "="};
        int[][] holds = {{1, 0, 0}, {0, 1, 0}, {0, 0, 1}};
        String[] left = {"4", "6", "5"};
        for (int i = 0; i < 3; i++) {
            for (int k = 0; k < 3; k++) {
                PloughField x = planted();
                Check.rules(x, "take if " + left[k] + signs[i] + "5;leave;");
                Check.due(left[k] + signs[i] + "5", x.act(9, 0), 1 - holds[i][k]);
            }
        }
        PloughField x = planted();
        Check.rules(x, "take if 99999*99999>99999*10000+9999+1;look if 99999*99999=50000*20000;leave;");
        Check.due("held ones are alike", x.act(9, 0), 1);
    }

    /** What "give" of this expression tells for the plant on 9. */
    private static int told(PloughField x, String ex) {
        Check.rules(x, "give " + ex + ";");
        return x.act(9, 2);
    }

    private static void wordsAtTheirEdges() {
        PloughField x = planted();
        Check.due("weed, a quarter", told(x, "weed"), 25);
        Check.due("wet 0", told(x, "wet"), 0);
        Check.due("press 0", told(x, "press"), 0);
        Check.due("looks 0", told(x, "looks"), 0);
        Check.due("size 0", told(x, "size"), 0);
        Check.due("ill 0", told(x, "ill"), 0);
        Check.due("rain none", told(x, "rain"), 900);
        Check.due("given 0", told(x, "given"), 0);
        PloughField y = new PloughField();
        y.kind(true, 1, 50, 50, 50, 50);
        y.plant(9);
        y.land(9, 0, 999);
        y.ill(9, true);
        y.look(9, 0);
        Check.due("weed, all", told(y, "weed"), 100);
        Check.due("wet 999", told(y, "wet"), 999);
        Check.due("ill 1", told(y, "ill"), 1);
        Check.due("looks 1", told(y, "looks"), 1);
        y.ill(9, false);
        Check.due("ill no more", told(y, "ill"), 0);
        PloughField z = new PloughField();
        z.kind(false, 100, 50, 50, 50, 50);
        z.plant(9);
        Check.due("no weed", told(z, "weed"), 0);
    }

    private static void rainWordAtItsEdges() {
        PloughField x = planted();
        Check.rules(x, "give rain;");
        x.rain(719, 719, 1);
        Check.due("at 0 in 719", x.act(9, 2), 719);
        x.rain(2, 3, 1);
        Check.due("at 0 in 2", x.act(9, 2), 2);
        x.rain(1, 1, 1);
        Check.due("at 0 in 1", x.act(9, 2), 1);
        int[] in = {1, 1, 716};
        for (int hour = 1; hour <= 3; hour++) {
            x.pass(1);
            Check.due("at " + hour, x.act(9, 2), in[hour - 1]);
        }
        x.pass(200);
        x.pass(200);
        x.pass(200);
        x.pass(115);
        Check.due("at 718 in 1", x.act(9, 2), 1);
        x.pass(1);
        Check.due("at 719: none", x.act(9, 2), 900);
    }

    private static void actEdges() {
        PloughField x = planted();
        x.plant(0);
        x.plant(63);
        Check.rules(x, "give 0-3;");
        int[] whats = {-1, 0, 1, 2, 3, LOW, HIGH};
        int[] want = {NO_ACT, 0, 3, -3, NO_ACT, NO_ACT, NO_ACT};
        for (int i = 0; i < whats.length; i++) {
            Check.due("on 0: " + whats[i], x.act(0, whats[i]), want[i]);
            Check.due("on 63: " + whats[i], x.act(63, whats[i]), want[i]);
            Check.due("on 64: " + whats[i], x.act(64, whats[i]), NO_ACT);
            Check.due("on -1: " + whats[i], x.act(-1, whats[i]), NO_ACT);
            Check.due("on a bare one: " + whats[i], x.act(1, whats[i]), NO_ACT);
        }
        String[] deeds = {"take", "look", "leave"};
        for (int i = 0; i < 3; i++) {
            Check.rules(x, deeds[i] + ";");
            Check.due(deeds[i], x.act(9, 1), i);
            Check.due(deeds[i] + " tells 0", x.act(9, 2), 0);
        }
    }

    private static void actOfTheLastStatement() {
        for (int statement = 0; statement < 24; statement += 23) {
            PloughField x = planted();
            String none = "take if 1<1;";
            Check.rules(x, none.repeat(statement) + "give 7;" + none.repeat(23 - statement));
            Check.due("statement " + statement, x.act(9, 0), statement);
            Check.due("give", x.act(9, 1), 3);
            Check.due("7", x.act(9, 2), 7);
        }
    }

    private static void actOfNone() {
        PloughField x = planted();
        for (int what = 0; what <= 2; what++) {
            Check.due("without rules", x.act(9, what), NO_ACT);
        }
        Check.rules(x, "take if 1<1;".repeat(24));
        for (int what = 0; what <= 2; what++) {
            Check.due("none holds", x.act(9, what), NO_ACT);
        }
        Check.due("nothing is planned", x.plan(9), -1);
        Check.due("no work", x.count(4), 0);
    }

    private static void planHeldFrom1To999() {
        String[] ex = {"0", "1", "2", "998", "999", "1000", "99999*99999", "0-1", "0-99999*99999"};
        int[] much = {1, 1, 2, 998, 999, 999, 999, 1, 1};
        for (int i = 0; i < ex.length; i++) {
            PloughField x = planted();
            Check.rules(x, "give " + ex[i] + ";");
            Check.due("plan of " + ex[i], x.plan(9), 0);
            Check.due("give", x.job(0, 0), 2);
            Check.due("on 9", x.job(0, 1), 9);
            Check.due("much of " + ex[i], x.job(0, 2), much[i]);
        }
        String[] deeds = {"take;", "look;"};
        for (int i = 0; i < 2; i++) {
            PloughField x = planted();
            Check.rules(x, deeds[i]);
            Check.due(deeds[i], x.plan(9), 0);
            Check.due(deeds[i] + " is of kind", x.job(0, 0), 1 - i);
            Check.due(deeds[i] + " has no much", x.job(0, 2), 0);
        }
    }

    private static void planRefusals() {
        PloughField x = planted();
        Check.due("without rules", x.plan(9), -1);
        Check.rules(x, "leave;");
        Check.due("leave", x.plan(9), -1);
        Check.rules(x, "take;");
        int[] cells = {-1, 0, 8, 10, 63, 64, LOW, HIGH};
        for (int cell : cells) {
            Check.due("no plant on " + cell, x.plan(cell), -1);
        }
        Check.due("no works", x.count(4), 0);
        Check.due("told", x.count(1), 3);
        Check.due("a plant", x.plan(9), 0);
        Check.due("as if told", x.count(1), 4);
    }

    private static void planAsThe60thAndTheLast() {
        PloughField x = planted();
        Check.rules(x, "take;");
        for (int i = 0; i < 59; i++) {
            x.work(0, 1, 0);
        }
        Check.due("the sixtieth", x.plan(9), 59);
        Check.due("one more", x.plan(9), -1);
        PloughField y = planted();
        Check.rules(y, "take;");
        for (int i = 3; i < 399; i++) {
            y.show(i % 64, 1);
        }
        Check.due("399 are told", y.count(1), 399);
        Check.due("the four hundredth", y.plan(9), 0);
        Check.due("400 are told", y.count(1), 400);
        Check.due("one more", y.plan(9), -1);
        Check.due("one work", y.count(4), 1);
    }
}
