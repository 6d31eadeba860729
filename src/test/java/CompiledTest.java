import java.io.IOException;
import java.util.ArrayList;
import java.util.LinkedHashMap;
import java.util.List;
import java.util.Map;
import java.util.Set;

/** The rules of LANGUAGE.md that the compiled class shows: what it calls, makes and catches, how deep calls go. */
public final class CompiledTest {
    private static final int MOST_DEEP = 8;
    private static final int IDIV = 108;
    private static final int LREM = 113;
    private static final int INVOKEDYNAMIC = 186;
    private static final int ATHROW = 191;

    // rule 4, as far as the class uses it
    private static final Set<String> LIBRARY = Set.of("java.lang.Object.<init>", "java.lang.Math.min",
        "java.lang.Math.max", "java.lang.Math.abs", "java.lang.Integer.bitCount", "java.lang.Long.bitCount",
        "java.lang.String.length", "java.lang.String.charAt", "java.lang.String.indexOf",
        "java.lang.System.arraycopy", "java.util.Arrays.fill");

    // rule 7: these divide by a number that they look at before; all others by a constant
    private static final Set<String> DIVIDING = Set.of("sow", "see", "joined");

    // rule 8: these call one another and carry how many are open
    private static final Set<String> RECURSIVE = Set.of("readAny", "readOne", "readSum", "readAtom");

    private static final Map<String, ClassFile.Code> METHODS = new LinkedHashMap<>();

    public static void main(String[] args) throws IOException {
        METHODS.putAll(new ClassFile(PloughField.class).methods);
        for (Class<?> inside : PloughField.class.getDeclaredClasses()) {
            METHODS.putAll(new ClassFile(inside).methods);
        }
        Check.due("all calls of the face are read", METHODS.values().stream().filter(c -> c.isPublic).count(), 31);
        nothingIsThrownOrCaught();
        onlyTheListedLibrary();
        madeInConstructorsAlone();
        onlyTheReaderCallsItself();
        callsGoEightDeep();
        divisorsAreConstants();
        Check.end();
    }

    private static String nameOf(String method) {
        return method.substring(method.lastIndexOf('.', method.indexOf('(')) + 1, method.indexOf('('));
    }

    private static void nothingIsThrownOrCaught() {
        for (Map.Entry<String, ClassFile.Code> method : METHODS.entrySet()) {
            Check.due(method.getKey() + " catches nothing", method.getValue().handlers, 0);
            for (int op : method.getValue().instructions) {
                boolean isBarred = op == ATHROW || op == 194 || op == 195 || op == INVOKEDYNAMIC;
                Check.due(method.getKey() + " throws nothing, locks nothing", isBarred, false);
            }
        }
    }

    private static void onlyTheListedLibrary() {
        for (Map.Entry<String, ClassFile.Code> method : METHODS.entrySet()) {
            for (String called : method.getValue().calls) {
                String bare = called.substring(0, called.indexOf('('));
                boolean isFine = METHODS.containsKey(called) || LIBRARY.contains(bare);
                Check.due(method.getKey() + " may call " + called, isFine, true);
            }
        }
    }

    private static void madeInConstructorsAlone() {
        for (Map.Entry<String, ClassFile.Code> method : METHODS.entrySet()) {
            boolean makes = false;
            for (int op : method.getValue().instructions) {
                makes |= op >= 187 && op <= 189 || op == 197;
            }
            Check.due(method.getKey() + " makes something outside a constructor",
                    makes && !nameOf(method.getKey()).equals("<init>"), false);
        }
    }

    private static void onlyTheReaderCallsItself() {
        for (String method : METHODS.keySet()) {
            Check.due(method + " calls itself in the end", comesBack(method, method, new ArrayList<>()),
                    RECURSIVE.contains(nameOf(method)));
        }
    }

    private static boolean comesBack(String from, String to, List<String> been) {
        for (String called : METHODS.get(from).calls) {
            if (called.equals(to)) {
                return true;
            }
            if (METHODS.containsKey(called) && !been.contains(called)) {
                been.add(called);
                if (comesBack(called, to, been)) {
                    return true;
                }
            }
        }
        return false;
    }

    private static void callsGoEightDeep() {
        for (Map.Entry<String, ClassFile.Code> method : METHODS.entrySet()) {
            if (method.getValue().isPublic) {
                List<String> deepest = deepest(method.getKey(), new ArrayList<>());
                Check.due("calls go eight deep at most: " + deepest, deepest.size() <= MOST_DEEP, true);
            }
        }
    }

    /** The longest way down through calls that enters no method twice. */
    private static List<String> deepest(String method, List<String> above) {
        above.add(method);
        List<String> best = new ArrayList<>(above);
        for (String called : METHODS.get(method).calls) {
            if (METHODS.containsKey(called) && !above.contains(called)) {
                List<String> down = deepest(called, above);
                best = down.size() > best.size() ? down : best;
            }
        }
        above.remove(above.size() - 1);
        return best;
    }

    private static void divisorsAreConstants() {
        for (Map.Entry<String, ClassFile.Code> method : METHODS.entrySet()) {
            List<Integer> all = method.getValue().instructions;
            for (int i = 1; i < all.size(); i++) {
                if (all.get(i) >= IDIV && all.get(i) <= LREM && !isConstant(all.get(i - 1))) {
                    Check.due(method.getKey() + " looks at what it divides by",
                            DIVIDING.contains(nameOf(method.getKey())), true);
                }
            }
        }
    }

    private static boolean isConstant(int op) {
        return op >= 2 && op <= 20;
    }
}
