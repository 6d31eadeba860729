/** Promises 25 to 29: the tape, rules, faults, acts and plans. */
public final class RulesTest {
    private static final int NO_ACT = -2000000000;

    public static void main(String[] args) {
        promise25Feed();
        promise26Rules();
        promise27Faults();
        faultsOfDepth();
        faultsOfStatements();
        faultsOfOddBytes();
        longestText();
        faultStaysUntilTheNext();
        promise28Act();
        words();
        rainWord();
        arithmetic();
        conditions();
        lastInForce();
        promise29Plan();
        plansAreWorks();
        Check.end();
    }

    private static void promise25Feed() {
        PloughField x = new PloughField();
        for (int i = 1; i <= 25; i++) {
            Check.due("feed " + i, x.feed(-1, 0, Integer.MIN_VALUE, Integer.MAX_VALUE, 1), 20 * i);
        }
        Check.due("more than 500", x.feed(0, 0, 0, 0, 0), -1);
        Check.due("bytes", x.count(14), 500);
        Check.due("feeding isn't told", x.count(1), 0);
        Check.due("a fault", x.rules(500), -1);
        Check.due("at the first byte", x.fault(), 0);
        Check.due("the tape is empty", x.count(14), 0);
        // the highest byte comes first: "take", ";   "
        x.feed(0x74616b65, 0x3b202020, 0x20202020, 0x20202020, 0x20202020);
        Check.due("highest first", x.rules(5), 0);
        Check.due("the tape is empty", x.count(14), 0);
    }

    private static void promise26Rules() {
        PloughField x = new PloughField();
        Check.due("below 0", x.rules(-1), -2);
        Check.due("more than there are", x.rules(1), -2);
        Check.due("no rules yet", x.count(12), 0);
        Check.due("an empty text", x.rules(0), 0);
        Check.due("no statements", x.count(13), 0);
        Check.feed(x, "take; look;");
        Check.due("more than there are", x.rules(21), -2);
        Check.due("nothing done", x.count(14), 20);
        Check.due("the first five bytes", x.rules(5), 1);
        Check.due("one statement", x.count(13), 1);
        Check.due("a fault isn't a number", Check.rules(x, "take"), -1);
        Check.due("rules", x.count(12), 2);
        for (int i = 2; i < 8; i++) {
            Check.due("rules " + i, Check.rules(x, " take;\nlook ; "), i);
        }
        Check.due("two statements", x.count(13), 2);
        Check.feed(x, "take");
        Check.due("8 are told", x.rules(4), -3);
        Check.due("nothing done", x.count(14), 20);
        Check.due("and more than there are", x.rules(21), -2);
        Check.due("no fault since", x.fault(), -1);
        Check.due("statements", x.count(13), 2);
        Check.due("rules aren't told", x.count(1), 0);
    }

    private static void promise27Faults() {
        Check.due("none yet", new PloughField().fault(), -1);
        Object[][] texts = {
            {"", -1}, {" \n ", -1}, {"take;", -1}, {"leave;look;", -1}, {"give 1;", -1}, {"give 00000;", -1},
            {"give 1if 2<3;", -1}, {"give(1)if[2<3];", -1}, {"take if not[1<2]or 3=4and 5>6;", -1},
            {"give 99999+wet*(press-looks)/size if weed>1 and ill=0 or rain<3 and given=0;", -1},
            {"take", 4}, {"take ", 5}, {"take \n", 6}, {"take if", 7}, {"give", 4}, {"give (1", 7}, {"give 1+", 7},
            {"take if [1<2", 12}, {"take if 1", 9}, {"take if 1<", 10}, {"take if not", 11}, {"take if 1<2 and", 15},
            {"taken;", 0}, {"tak;", 0}, {"ta ke;", 0}, {";", 0}, {"1;", 0}, {"weed;", 0}, {"take;;", 5},
            {"take 1;", 5}, {"give;", 4}, {"give if 1<2;", 5}, {"give 123456;", 5}, {"give 012345;", 5},
            {"give 1 2;", 7}, {"give 1x;", 6}, {"give weeds;", 5}, {"give weed wet;", 10}, {"give -1;", 5},
            {"give 1+;", 7}, {"give 1*;", 7}, {"give 1+-2;", 7}, {"give ();", 6}, {"give (1;", 7}, {"give 1);", 6},
            {"give [1];", 5}, {"give 1<2;", 6}, {"give (1<2);", 7}, {"give not 1;", 5},
            {"take if 1;", 9}, {"take if 1<2<3;", 11}, {"take if 1<=2;", 10}, {"take if (1<2);", 10},
            {"take if [1];", 10}, {"take if [1<2;", 12}, {"take if 1<2];", 11}, {"take if 1<2 or;", 14},
            {"take if or 1<2;", 8}, {"take if not;", 11}, {"take if 1<2 not 3<4;", 12}, {"take if 1<2 if 1<2;", 12},
            {"take if 1<not 2;", 10}, {"take if 1<[2];", 10}, {"take if [1<2)+1;", 12}, {"take if 1<2 take;", 12},
            {"Take;", 0}, {"take\t;", 4}, {"take;\r", 5}, {"take;_", 5}, {"take;" + (char) 233, 5},
            {"take" + (char) 0 + ";", 4}, {"take; look; 7", 12}, {"take;ta", 5}, {"give 1 i", 7},
        };
        for (Object[] one : texts) {
            PloughField x = new PloughField();
            String text = (String) one[0];
            int place = (Integer) one[1];
            Check.due("rules of <" + text + ">", Check.rules(x, text), place < 0 ? 0 : -1);
            Check.due("fault of <" + text + ">", x.fault(), place);
        }
    }

    private static void faultsOfDepth() {
        String[] openings = {"(", "[", "not "};
        String[] closings = {")", "]", ""};
        for (int i = 0; i < 3; i++) {
            String inside = i == 0 ? "1" : "1<2";
            String behind = i == 0 ? "<2;" : ";";
            String nine = "take if " + openings[i].repeat(9) + inside + closings[i].repeat(9) + behind;
            String ten = "take if " + openings[i].repeat(10) + inside + closings[i].repeat(10) + behind;
            PloughField x = new PloughField();
            Check.due("nine " + openings[i], Check.rules(x, nine), 0);
            Check.due("ten " + openings[i], Check.rules(x, ten), -1);
            Check.due("the tenth " + openings[i], x.fault(), 8 + 9 * openings[i].length());
        }
        PloughField x = new PloughField();
        Check.due("all together nine", Check.rules(x, "take if not[not[not[(((1)))<2]]];"), 0);
        Check.due("all together ten", Check.rules(x, "take if not[not[not[((((1))))<2]]];"), -1);
        Check.due("the tenth", x.fault(), 23);
        Check.due("a closed one isn't open", Check.rules(x, "give (1)+(1)+(1)+(1)+(1)+(1)+(1)+(1)+(1)+(1)+(1);"), 1);
        Check.due("a not ends with its part", Check.rules(x,
                "take if not 1<2 and not 1<2 and not 1<2 and not 1<2 and not 1<2 and not 1<2 and not 1<2 and "
                + "not 1<2 and not 1<2 and not 1<2 and not 1<2;"), 2);
        Check.due("ten in give", Check.rules(x, "give " + "(".repeat(10)), -1);
        Check.due("the tenth", x.fault(), 14);
        Check.due("nine in give, more must come", Check.rules(x, "give " + "(".repeat(9)), -1);
        Check.due("the length", x.fault(), 14);
    }

    private static void faultsOfStatements() {
        PloughField x = new PloughField();
        Check.due("24 statements", Check.rules(x, "take ;".repeat(24)), 0);
        Check.due("statements", x.count(13), 24);
        Check.due("25 statements", Check.rules(x, "take ;".repeat(24) + " take;"), -1);
        Check.due("where it begins", x.fault(), 145);
        Check.due("statements of the last", x.count(13), 24);
        Check.due("blanks behind 24", Check.rules(x, "look;".repeat(24) + "\n "), 1);
    }

    private static void faultsOfOddBytes() {
        for (int odd = 0; odd < 256; odd++) {
            String begins = "take if wet<3" + (char) odd;
            boolean goesOn = odd == ' ' || odd == '\n' || odd == '+' || odd == '-' || odd == '*' || odd == '/';
            int place = goesOn ? 14 : odd == ';' ? -1 : odd >= '0' && odd <= '9' ? 14 : 13;
            PloughField x = new PloughField();
            Check.due("byte " + odd, Check.rules(x, begins), odd == ';' ? 0 : -1);
            Check.due("fault of byte " + odd, x.fault(), place);
        }
        for (int odd = 0; odd < 256; odd++) {
            PloughField x = new PloughField();
            boolean isBlank = odd == ' ' || odd == '\n';
            Check.due("first byte " + odd, Check.rules(x, (char) odd + "take;"), isBlank ? 0 : -1);
            Check.due("fault of first byte " + odd, x.fault(), isBlank ? -1 : 0);
        }
    }

    private static void longestText() {
        // 500 bytes, each one a token but for the first word
        StringBuilder text = new StringBuilder("give 1");
        for (int i = 0; i < 246; i++) {
            text.append("+1");
        }
        PloughField x = new PloughField();
        x.kind(true, 1, 50, 50, 50, 50);
        x.plant(9);
        Check.due("498 bytes and a sign", Check.rules(x, text + ";"), 0);
        Check.due("all are added", x.act(9, 2), 247);
        Check.feed(x, "(".repeat(500));
        Check.due("500 signs", x.rules(500), -1);
        Check.due("the first is wrong", x.fault(), 0);
        String deep = "give 1+1*(1+1*(1+1*(1+1*(1+1*(1+1*(1+1*(1+1*(1+1*(2))))))))) if 1<2 or 1<2 and "
                + "[1<1 or 1<2 and [1<1 or 1<2 and [1<1 or 1<2 and [1<1 or 1<2 and [1<1 or 1<2 and [1<1 or 1<2 and "
                + "[1<1 or 1<2 and [1<1 or 1<2 and [0-1*3<0]]]]]]]]];";
        Check.due("nine deep in both", Check.rules(x, deep), 1);
        Check.due("told", x.act(9, 2), 11);
    }

    private static void faultStaysUntilTheNext() {
        PloughField x = new PloughField();
        Check.rules(x, "take");
        Check.due("fault", x.fault(), 4);
        x.rules(-1);
        x.rules(500);
        Check.due("-2 changes nothing", x.fault(), 4);
        Check.rules(x, "take;");
        Check.due("none", x.fault(), -1);
    }

    private static PloughField planted() {
        PloughField x = new PloughField();
        x.kind(true, 1, 80, 50, 50, 50);
        x.kind(false, 3, 20, 50, 50, 50);
        x.plant(9);
        return x;
    }

    private static void promise28Act() {
        PloughField x = planted();
        Check.due("no rules", x.act(9, 0), NO_ACT);
        Check.rules(x, "give 5-9 if wet>0; look if press>0; leave if looks>0; take if 1>0; leave;");
        x.land(9, 0, 1);
        int[] give = {0, 3, -4};
        for (int what = 0; what <= 2; what++) {
            Check.due("give " + what, x.act(9, what), give[what]);
        }
        x.land(9, 0, 0);
        x.look(9, 0);
        int[] leave = {2, 2, 0};
        for (int what = 0; what <= 2; what++) {
            Check.due("leave " + what, x.act(9, what), leave[what]);
        }
        x.plant(10);
        int[] take = {3, 0, 0};
        for (int what = 0; what <= 2; what++) {
            Check.due("take " + what, x.act(10, what), take[what]);
        }
        Check.due("no such", x.act(9, 3), NO_ACT);
        Check.due("no such", x.act(9, -1), NO_ACT);
        Check.due("no plant", x.act(11, 0), NO_ACT);
        Check.due("no such cell", x.act(64, 0), NO_ACT);
        Check.due("no such cell", x.act(-1, 0), NO_ACT);
        Check.rules(x, "look if 1=2; look;");
        int[] look = {1, 1, 0};
        for (int what = 0; what <= 2; what++) {
            Check.due("look " + what, x.act(9, what), look[what]);
        }
        Check.rules(x, "take if 1>1;");
        Check.due("none holds", x.act(9, 0), NO_ACT);
        Check.rules(x, "");
        Check.due("no statements", x.act(9, 0), NO_ACT);
    }

    /** What a "give" of this expression tells for the plant on 9. */
    private static void tells(PloughField x, String ex, int want) {
        Check.due("rules of " + ex, Check.rules(x, "give " + ex + ";") >= 0 ? 0 : -1, 0);
        Check.due(ex, x.act(9, 2), want);
    }

    private static void words() {
        PloughField x = planted();
        x.land(9, 0, 321);
        x.look(9, 1);
        x.look(9, 0);
        x.ill(9, true);
        x.cart(2, 7, 999, 8, 100);
        x.work(2, 9, 55);
        x.pass(24);
        tells(x, "weed", x.cell(9, 9));
        tells(x, "wet", 297);
        tells(x, "press", 28);
        tells(x, "looks", 2);
        tells(x, "size", 2);
        tells(x, "ill", 1);
        tells(x, "rain", 900);
        tells(x, "given", 55);
    }

    private static void rainWord() {
        PloughField x = planted();
        x.rain(10, 12, 5);
        x.rain(20, 20, 5);
        Check.rules(x, "give rain;");
        Check.due("in 10 hours", x.act(9, 2), 10);
        x.pass(9);
        Check.due("in 1 hour", x.act(9, 2), 1);
        x.pass(1);
        Check.due("it rains on in 1 hour", x.act(9, 2), 1);
        x.pass(1);
        Check.due("it rains on in 1 hour", x.act(9, 2), 1);
        x.pass(1);
        Check.due("the next in 8 hours", x.act(9, 2), 8);
        x.rain(15, 30, 5);
        Check.due("the next in 3 hours", x.act(9, 2), 3);
        x.pass(18);
        Check.due("none", x.act(9, 2), 900);
    }

    private static void arithmetic() {
        PloughField x = planted();
        tells(x, "7-2-1", 4);
        tells(x, "2+3*4-10/3", 11);
        tells(x, "100/10/5", 2);
        tells(x, "(2+3)*4", 20);
        tells(x, "2*(3-5)*3", -12);
        tells(x, "(0-7)/2", -3);
        tells(x, "7/(0-2)", -3);
        tells(x, "5/0", 0);
        PloughField y = planted();
        tells(y, "0/0+1", 1);
        tells(y, "99999*99999", 1000000000);
        tells(y, "0-99999*99999", -1000000000);
        tells(y, "99999*99999+1-2", 999999998);
        tells(y, "(0-99999)*99999-5+1", -999999999);
        tells(y, "99999*99999*99999/99999", 10000);
        tells(y, "1-2*3+4*5/6-7", 1 - 6 + 3 - 7);
        tells(y, "8/(3/5)", 0);
    }

    private static void conditions() {
        Object[][] tests = {
            {"1<2", 1}, {"2<1", 0}, {"1<1", 0}, {"2>1", 1}, {"1>2", 0}, {"1>1", 0}, {"1=1", 1}, {"1=2", 0},
            {"1+1=2", 1}, {"1<2 and 1<1", 0}, {"1<2 or 1<1", 1}, {"1<1 or 1<1", 0}, {"not 1<1", 1}, {"not not 1<1", 0},
            {"1<2 or 1<2 and 1<1", 1}, {"[1<2 or 1<2] and 1<1", 0}, {"1<1 and 1<1 or 1<2", 1},
            {"1<1 and [1<1 or 1<2]", 0}, {"not 1<2 or 1<2", 1}, {"not [1<2 or 1<2]", 0}, {"not 1<1 and 1<1", 0},
            {"1<1 or 1<2 and 1<2", 1}, {"1<1 or 1<2 and 1<1 or 1<1 and 1<2", 0},
            {"1<2 or 1<1 or 1<1", 1}, {"1<1 or 1<2 or 1<1", 1}, {"1<1 or 1<1 or 1<2", 1}, {"1<1 or 1<1 or 1<1", 0},
            {"1<2 and 1<2 and 1<1", 0}, {"1<1 and 1<2 and 1<2", 0}, {"1<2 and 1<2 and 1<2", 1}, {"0-1<0", 1},
        };
        for (int i = 0; i < tests.length; i++) {
            PloughField x = planted();
            Check.rules(x, "take if " + tests[i][0] + "; leave;");
            Check.due("if " + tests[i][0], x.act(9, 0), (Integer) tests[i][1] == 1 ? 0 : 1);
        }
    }

    private static void lastInForce() {
        PloughField x = planted();
        Check.rules(x, "take;");
        Check.due("take", x.act(9, 1), 0);
        Check.rules(x, "look;");
        Check.due("look", x.act(9, 1), 1);
        Check.rules(x, "leave");
        Check.due("a fault leaves it in force", x.act(9, 1), 1);
        Check.due("statements", x.count(13), 1);
    }

    private static void promise29Plan() {
        PloughField x = planted();
        Check.due("no act", x.plan(9), -1);
        Check.rules(x, "take if wet=1; look if wet=2; leave if wet=3; give 0-5 if wet=4; give 5000 if wet=5;"
                + "give 999 if wet=6; give 1 if wet=7; give 400 if wet=8;");
        int[] kind = {1, 0, -1, 2, 2, 2, 2, 2};
        int[] much = {0, 0, 0, 1, 999, 999, 1, 400};
        int works = 0;
        int told = x.count(1);
        for (int wet = 1; wet <= 8; wet++) {
            x.land(9, 0, wet);
            told++;
            if (kind[wet - 1] < 0) {
                Check.due("leave", x.plan(9), -1);
                continue;
            }
            Check.due("plan " + wet, x.plan(9), works);
            Check.due("kind " + wet, x.job(works, 0), kind[wet - 1]);
            Check.due("cell " + wet, x.job(works, 1), 9);
            Check.due("much " + wet, x.job(works, 2), much[wet - 1]);
            Check.due("open " + wet, x.job(works, 3), 0);
            works++;
            told++;
        }
        Check.due("as if told", x.count(1), told);
        x.land(9, 0, 9);
        Check.due("none holds", x.plan(9), -1);
        Check.due("no plant", x.plan(10), -1);
        Check.due("no such cell", x.plan(64), -1);
        Check.due("no such cell", x.plan(-1), -1);
    }

    private static void plansAreWorks() {
        PloughField x = planted();
        Check.rules(x, "give 7;");
        for (int i = 0; i < 60; i++) {
            Check.due("plan " + i, x.plan(9), i);
        }
        Check.due("60 are there", x.plan(9), -1);
        x.cart(2, 1, 999, 9, 100);
        x.pass(2);
        Check.due("two are done", x.cell(9, 7), 14);
        Check.due("without one of them", x.again(2, 0, 9, 7), 14);
        x.pass(58);
        Check.due("all are done", x.count(6), 60);
        Check.due("without one of them", x.again(2, 59, 9, 7), 59 * 7);
    }
}
