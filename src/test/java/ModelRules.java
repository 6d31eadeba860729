import java.util.ArrayList;
import java.util.List;
import java.util.function.IntBinaryOperator;
import java.util.regex.Matcher;
import java.util.regex.Pattern;

/** The model's tape and rules: a tree of functions, read by one method for each line of the grammar. */
final class ModelRules {
    interface Ex {
        int of(int[] facts);
    }

    interface Test {
        boolean of(int[] facts);
    }

    static final class Statement {
        int what;
        Ex tells = facts -> 0;
        Test holds = facts -> true;
    }

    static final class Fault extends RuntimeException {
        final int place;

        Fault(int place) {
            this.place = place;
        }
    }

    private static final List<String> WORDS = List.of("weed", "wet", "press", "looks", "size", "ill", "rain", "given");
    private static final List<String> DEEDS = List.of("take", "look", "leave", "give");
    private static final Pattern TOKEN = Pattern.compile("[a-z]+|[0-9]+|[^ \\n]", Pattern.DOTALL);

    private final StringBuilder tape = new StringBuilder();
    private List<Statement> force = new ArrayList<>();
    private List<String> tokens;
    private List<Integer> places;
    private int at;
    private int open;
    int taken;
    int fault = -1;

    int feed(int... numbers) {
        if (tape.length() + 20 > 500) return -1;
        for (int number : numbers) {
            for (int i = 3; i >= 0; i--) tape.append((char) (number >>> 8 * i & 255));
        }
        return tape.length();
    }

    int bytes() {
        return tape.length();
    }

    int statements() {
        return force.size();
    }

    int rules(int n) {
        if (n < 0 || n > tape.length()) return -2;
        if (taken == 8) return -3;
        String text = tape.substring(0, n);
        tape.setLength(0);
        tokens = new ArrayList<>();
        places = new ArrayList<>();
        Matcher matcher = TOKEN.matcher(text);
        while (matcher.find()) {
            tokens.add(matcher.group());
            places.add(matcher.start());
        }
        tokens.add("");
        places.add(n);
        at = 0;
        open = 0;
        try {
            List<Statement> read = new ArrayList<>();
            while (!is("")) {
                if (read.size() == 24) throw wrong();
                read.add(statement());
            }
            force = read;
            fault = -1;
            taken++;
            return taken - 1;
        } catch (Fault found) {
            fault = found.place;
            return -1;
        }
    }

    int[] act(int[] facts) {
        for (int i = 0; i < force.size(); i++) {
            Statement one = force.get(i);
            if (one.holds.of(facts)) return new int[] {i, one.what, one.tells.of(facts)};
        }
        return null;
    }

    private boolean is(String token) {
        return tokens.get(at).equals(token);
    }

    private boolean took(String token) {
        if (!is(token)) return false;
        at++;
        return true;
    }

    private void must(String token) {
        if (!took(token)) throw wrong();
    }

    private Fault wrong() {
        return new Fault(places.get(at));
    }

    private void opens() {
        if (open == 9) throw wrong();
        open++;
        at++;
    }

    private Statement statement() {
        Statement one = new Statement();
        one.what = DEEDS.indexOf(tokens.get(at));
        if (one.what < 0) throw wrong();
        at++;
        if (one.what == 3) one.tells = ex();
        if (took("if")) one.holds = any();
        must(";");
        return one;
    }

    private Ex ex() {
        Ex left = prod();
        while (is("+") || is("-")) {
            boolean plus = is("+");
            at++;
            left = join(left, prod(), (a, b) -> hold(plus ? (long) a + b : (long) a - b));
        }
        return left;
    }

    private Ex prod() {
        Ex left = atom();
        while (is("*") || is("/")) {
            boolean times = is("*");
            at++;
            left = join(left, atom(), (a, b) -> times ? hold((long) a * b) : b == 0 ? 0 : hold((long) a / b));
        }
        return left;
    }

    private static Ex join(Ex left, Ex right, IntBinaryOperator how) {
        return facts -> how.applyAsInt(left.of(facts), right.of(facts));
    }

    private static int hold(long v) {
        return v > 1_000_000_000L ? 1_000_000_000 : v < -1_000_000_000L ? -1_000_000_000 : (int) v;
    }

    private Ex atom() {
        String token = tokens.get(at);
        if (token.matches("[0-9]{1,5}")) {
            at++;
            int number = Integer.parseInt(token);
            return facts -> number;
        }
        int word = WORDS.indexOf(token);
        if (word >= 0) {
            at++;
            return facts -> facts[word];
        }
        if (!is("(")) throw wrong();
        opens();
        Ex inside = ex();
        must(")");
        open--;
        return inside;
    }

    private Test any() {
        Test left = all();
        while (took("or")) {
            Test one = left, two = all();
            left = facts -> one.of(facts) || two.of(facts);
        }
        return left;
    }

    private Test all() {
        Test left = one();
        while (took("and")) {
            Test one = left, two = one();
            left = facts -> one.of(facts) && two.of(facts);
        }
        return left;
    }

    private Test one() {
        if (is("not") || is("[")) {
            boolean not = is("not");
            opens();
            Test inside = not ? one() : any();
            if (!not) must("]");
            open--;
            return facts -> not != inside.of(facts);
        }
        Ex left = ex();
        String sign = tokens.get(at);
        if (!sign.matches("[<>=]")) throw wrong();
        at++;
        Ex right = ex();
        return facts -> {
            int order = Integer.compare(left.of(facts), right.of(facts));
            return sign.equals("<") ? order < 0 : sign.equals(">") ? order > 0 : order == 0;
        };
    }
}
