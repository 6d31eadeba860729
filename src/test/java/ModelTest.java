import java.util.Random;

/** Random runs of calls on the class and on the model: every answer must be the same. */
public final class ModelTest {
    private static final String[] PIECES = {"take", "look", "leave", "give", "if", "or", "and", "not", "weed", "wet",
        "press", "looks", "size", "ill", "rain", "given", "+", "-", "*", "/", "(", ")", "[", "]", "<", ">", "=", ";",
        "7", "100", "99999", "123456", "x", "takes", "\n", "A"};

    private final Random random;
    private final PloughField field = new PloughField();
    private final Model model = new Model();
    private final String run;
    private final int style;

    private ModelTest(int seed) {
        random = new Random(seed);
        run = "run " + seed + ": ";
        style = seed % 6;
    }

    public static void main(String[] args) {
        int from = args.length > 0 ? Integer.parseInt(args[0]) : 0;
        int to = args.length > 1 ? Integer.parseInt(args[1]) : 120;
        for (int seed = from; seed < to && !Check.isWrong(); seed++) {
            new ModelTest(seed).play();
        }
        Check.end();
    }

    private int upTo(int most) {
        return random.nextInt(most + 1);
    }

    private int from(int least, int most) {
        return least + random.nextInt(most - least + 1);
    }

    /** Mostly a number from least to most, now and then one at or beyond an edge. */
    private int near(int least, int most) {
        int[] edges = {least, most, least - 1, most + 1, Integer.MIN_VALUE, Integer.MAX_VALUE};
        return random.nextInt(30) == 0 ? edges[random.nextInt(edges.length)] : from(least, most);
    }

    private int aCell() {
        int side = style % 2 == 0 ? 3 : 7;
        return random.nextInt(40) == 0 ? near(0, 63) : upTo(side) * 8 + upTo(side);
    }

    private void play() {
        begin();
        int calls = from(60, 300);
        for (int i = 0; i < calls && !Check.isWrong(); i++) {
            call(random.nextInt(100));
            if (random.nextInt(12) == 0) {
                compareSome();
            }
        }
        compareAll();
    }

    private void begin() {
        int many = from(5, 40);
        for (int i = 0; i < many; i++) {
            land(aCell(), upTo(style == 3 ? 3 : 99), style == 4 ? upTo(120) : upTo(700));
        }
        for (int i = 0; i < 3; i++) {
            kind();
            cart();
        }
        for (int i = 0; i < 15; i++) {
            plant(aCell());
        }
        for (int i = 0; i < from(0, 6); i++) {
            lot(upTo(99));
        }
        rulesGood();
    }

    private void call(int which) {
        if (which < 4) land(aCell(), near(0, 99), near(0, 999));
        else if (which < 7) set();
        else if (which < 10) rain();
        else if (which < 14) cart();
        else if (which < 17) charge();
        else if (which < 35) work();
        else if (which < 37) lot(near(0, 99));
        else if (which < 39) kind();
        else if (which < 47) plant(aCell());
        else if (which < 50) show();
        else if (which < 54) look();
        else if (which < 59) ill();
        else if (which < 75) pass();
        else if (which < 80) plan(aCell());
        else if (which < 84) again();
        else if (which < 87) strip();
        else if (which < 90) rulesGood();
        else if (which < 92) rulesOfPieces();
        else if (which < 93) rulesOdd();
        else ask();
    }

    private void land(int c, int h, int w) {
        Check.due(run + "land(" + c + ", " + h + ", " + w + ")", field.land(c, h, w), model.land(c, h, w));
    }

    private void set() {
        int what = near(0, 3);
        int[] most = {style == 5 ? 200 : 900, 300, 100, 14};
        int value = random.nextInt(10) == 0 ? near(1, 9999) : what >= 0 && what < 4 ? near(1, most[what]) : 1;
        Check.due(run + "set(" + what + ", " + value + ")", field.set(what, value), model.set(what, value));
    }

    private void rain() {
        int a = model.count(0) + near(0, 20), b = a + near(0, 9), much = style == 4 ? near(1, 20) : near(1, 99);
        Check.due(run + "rain(" + a + ", " + b + ", " + much + ")", field.rain(a, b, much), model.rain(a, b, much));
    }

    private void cart() {
        int kind = near(0, 3), weight = near(1, 50), sink = near(50, style == 4 ? 300 : 999), home = aCell();
        int full = random.nextInt(3) > 0 ? near(10, 30) : near(10, 500);
        Check.due(run + "cart(" + kind + ", " + weight + ", " + sink + ", " + home + ", " + full + ")",
                field.cart(kind, weight, sink, home, full), model.cart(kind, weight, sink, home, full));
    }

    private void charge() {
        int cart = near(0, 7);
        Check.due(run + "charge(" + cart + ")", field.charge(cart), model.charge(cart));
    }

    private void work() {
        int kind = near(0, 3), c = aCell(), much = kind == 2 || random.nextInt(30) == 0 ? near(1, 999) : 0;
        for (int i = 0; kind == 3 && i < model.count(3); i++) {
            if (model.told(i, 3) == 4) c = model.told(i, 1);
        }
        Check.due(run + "work(" + kind + ", " + c + ", " + much + ")", field.work(kind, c, much),
                model.work(kind, c, much));
    }

    private void lot(int v) {
        Check.due(run + "lot(" + v + ")", field.lot(v), model.lot(v));
    }

    private void kind() {
        boolean weed = random.nextBoolean();
        int p = near(1, 100), a = near(1, 99), b = near(1, 99), c = near(1, 99), d = near(1, 99);
        Check.due(run + "kind(" + weed + ", " + p + ", " + a + ", " + b + ", " + c + ", " + d + ")",
                field.kind(weed, p, a, b, c, d), model.kind(weed, p, a, b, c, d));
    }

    private void plant(int c) {
        Check.due(run + "plant(" + c + ")", field.plant(c), model.plant(c));
    }

    private void show() {
        int c = aCell(), marks = near(0, 15);
        Check.due(run + "show(" + c + ", " + marks + ")", field.show(c, marks), model.show(c, marks));
    }

    private void look() {
        int c = aCell(), marks = near(0, 15);
        Check.due(run + "look(" + c + ", " + marks + ")", field.look(c, marks), model.look(c, marks));
    }

    private void ill() {
        int c = aCell();
        boolean is = random.nextInt(4) > 0;
        Check.due(run + "ill(" + c + ", " + is + ")", field.ill(c, is), model.ill(c, is));
    }

    private void pass() {
        int n = random.nextInt(20) == 0 ? near(1, 200) : from(1, style == 1 ? 3 : 12);
        Check.due(run + "pass(" + n + ")", field.pass(n), model.pass(n));
    }

    private void plan(int c) {
        for (int what = -1; what <= 3; what++) {
            Check.due(run + "act(" + c + ", " + what + ")", field.act(c, what), model.act(c, what));
        }
        Check.due(run + "plan(" + c + ")", field.plan(c), model.plan(c));
    }

    private void again() {
        int without = near(0, 2), number = upTo(Math.max(0, model.count(2 + Math.max(0, Math.min(2, without)))));
        for (int i = 0; i < 12; i++) {
            int c = aCell(), what = near(0, 10);
            Check.due(run + "again(" + without + ", " + number + ", " + c + ", " + what + ")",
                    field.again(without, number, c, what), model.again(without, number, c, what));
        }
    }

    private void strip() {
        int arm = near(0, 1), crop = near(0, 9999);
        Check.due(run + "strip(" + arm + ", " + crop + ")", field.strip(arm, crop), model.strip(arm, crop));
        for (int what = -1; what <= 3; what++) {
            Check.due(run + "better(" + what + ")", field.better(what), model.better(what));
        }
    }

    private String anEx(int deep) {
        int which = random.nextInt(deep > 3 ? 2 : 6);
        if (which == 0) return PIECES[8 + random.nextInt(8)];
        if (which == 1) return String.valueOf(random.nextInt(4) == 0 ? upTo(99999) : upTo(300));
        if (which == 2) return "(" + anEx(deep + 1) + ")";
        return anEx(deep + 1) + PIECES[16 + random.nextInt(4)] + (random.nextBoolean() ? " " : "") + anEx(deep + 1);
    }

    private String aTest(int deep) {
        int which = random.nextInt(deep > 3 ? 1 : 5);
        if (which == 1) return "not " + aTest(deep + 1);
        if (which == 2) return "[" + aTest(deep + 1) + "]";
        if (which == 3) return aTest(deep + 1) + " or " + aTest(deep + 1);
        if (which == 4) return aTest(deep + 1) + " and\n" + aTest(deep + 1);
        return anEx(deep) + PIECES[24 + random.nextInt(3)] + anEx(deep);
    }

    private void rulesGood() {
        StringBuilder text = new StringBuilder();
        int many = from(1, 8);
        for (int i = 0; i < many; i++) {
            int deed = random.nextInt(4);
            text.append(PIECES[deed]);
            if (deed == 3) text.append(' ').append(anEx(1));
            if (random.nextInt(5) > 0) text.append(" if ").append(aTest(1));
            text.append(';');
        }
        if (random.nextInt(4) == 0) text.deleteCharAt(random.nextInt(text.length()));
        readRules(text.toString());
    }

    private void rulesOfPieces() {
        StringBuilder text = new StringBuilder();
        int many = from(1, 30);
        for (int i = 0; i < many; i++) {
            text.append(PIECES[random.nextInt(PIECES.length)]).append(random.nextBoolean() ? " " : "");
        }
        readRules(text.toString());
    }

    private void rulesOdd() {
        int a = random.nextInt(), b = random.nextInt(), c = random.nextInt();
        Check.due(run + "feed(odd)", field.feed(a, b, c, a, b), model.feed(a, b, c, a, b));
        int n = near(0, 520);
        Check.due(run + "rules(" + n + ")", field.rules(n), model.rules(n));
        Check.due(run + "fault()", field.fault(), model.fault());
    }

    private void readRules(String text) {
        for (int i = 0; i < text.length(); i += 20) {
            int[] n = new int[5];
            for (int k = 0; k < 20; k++) {
                n[k / 4] = n[k / 4] << 8 | (i + k < text.length() ? text.charAt(i + k) : ' ');
            }
            Check.due(run + "feed(..)", field.feed(n[0], n[1], n[2], n[3], n[4]),
                    model.feed(n[0], n[1], n[2], n[3], n[4]));
        }
        Check.due(run + "rules of " + text, field.rules(text.length()), model.rules(text.length()));
        Check.due(run + "fault of " + text, field.fault(), model.fault());
        // a run has eight rules at most; a text that was refused as too long must not stay on the tape
        if (random.nextBoolean()) Check.due(run + "rules(0)", field.rules(0), model.rules(0));
    }

    private void ask() {
        int n = near(0, 64), m = near(1, 3);
        if (random.nextBoolean()) n = upTo(5);
        for (int k = -1; k < 12; k++) {
            Check.due(run + "spot(" + n + ", " + k + ")", field.spot(n, k), model.spot(n, k));
        }
        for (int what = -1; what < 30; what++) {
            Check.due(run + "pull(" + m + ", " + n + ", " + what + ")", field.pull(m, n, what), model.pull(m, n, what));
        }
    }

    private void compareSome() {
        for (int what = -1; what <= 17; what++) {
            Check.due(run + "count(" + what + ")", field.count(what), model.count(what));
        }
        for (int cart = -1; cart <= model.count(3); cart++) {
            for (int what = -1; what <= 6; what++) {
                Check.due(run + "told(" + cart + ", " + what + ")", field.told(cart, what), model.told(cart, what));
            }
            int c = aCell();
            for (int what = -1; what <= 3; what++) {
                Check.due(run + "way(" + cart + ", " + c + ", " + what + ")", field.way(cart, c, what),
                        model.way(cart, c, what));
            }
        }
    }

    private void compareAll() {
        compareSome();
        for (int c = -1; c <= 64; c++) {
            for (int what = -1; what <= 11; what++) {
                Check.due(run + "cell(" + c + ", " + what + ")", field.cell(c, what), model.cell(c, what));
            }
            for (int kind = -1; kind <= 5; kind++) {
                Check.due(run + "share(" + c + ", " + kind + ")", field.share(c, kind), model.share(c, kind));
            }
            for (int what = -1; what <= 3; what++) {
                Check.due(run + "act(" + c + ", " + what + ")", field.act(c, what), model.act(c, what));
            }
        }
        for (int cart = 0; cart < model.count(3); cart++) {
            for (int what = 99; what <= 165; what++) {
                Check.due(run + "told(" + cart + ", " + what + ")", field.told(cart, what), model.told(cart, what));
            }
        }
        for (int work = -1; work <= model.count(4); work++) {
            for (int what = -1; what <= 5; what++) {
                Check.due(run + "job(" + work + ", " + what + ")", field.job(work, what), model.job(work, what));
            }
        }
        for (int what = -1; what <= 3; what++) {
            Check.due(run + "water(" + what + ")", field.water(what), model.water(what));
        }
        again();
        ask();
    }
}
