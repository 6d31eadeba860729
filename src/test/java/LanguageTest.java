import java.io.IOException;
import java.lang.reflect.Constructor;
import java.lang.reflect.Field;
import java.lang.reflect.Method;
import java.lang.reflect.Modifier;
import java.nio.file.Files;
import java.nio.file.Path;
import java.util.ArrayList;
import java.util.List;
import java.util.Set;
import java.util.TreeSet;
import java.util.regex.Matcher;
import java.util.regex.Pattern;

/** The rules of LANGUAGE.md that a test can see: the face, the words, the sizes. Run from the project's folder. */
public final class LanguageTest {
    private static final String[] FACE = {
        "boolean land(int,int,int)", "boolean set(int,int)", "int rain(int,int,int)",
        "int cart(int,int,int,int,int)", "boolean charge(int)", "int work(int,int,int)", "int lot(int)",
        "int kind(boolean,int,int,int,int,int)", "boolean plant(int)", "boolean show(int,int)",
        "boolean look(int,int)", "boolean ill(int,boolean)", "int pass(int)", "int cell(int,int)",
        "int share(int,int)", "int told(int,int)", "int job(int,int)", "int way(int,int,int)", "long water(int)",
        "int spot(int,int)", "int pull(int,int,int)", "int strip(int,int)", "int better(int)",
        "int feed(int,int,int,int,int)", "int rules(int)", "int fault()", "int act(int,int)", "int plan(int)",
        "int again(int,int,int,int)", "int count(int)"};

    public static void main(String[] args) throws IOException {
        face();
        membersInside();
        words();
        methodsStayShort();
        Check.end();
    }

    private static String written(Method method) {
        StringBuilder text = new StringBuilder(method.getReturnType().getName()).append(' ').append(method.getName());
        List<String> types = new ArrayList<>();
        for (Class<?> type : method.getParameterTypes()) {
            types.add(type.getName());
        }
        return text.append('(').append(String.join(",", types)).append(')').toString();
    }

    private static void face() {
        Set<String> due = new TreeSet<>(List.of(FACE));
        Set<String> seen = new TreeSet<>();
        for (Method method : PloughField.class.getDeclaredMethods()) {
            if (Modifier.isPublic(method.getModifiers())) {
                seen.add(written(method));
                Check.due(method + " isn't static", Modifier.isStatic(method.getModifiers()), false);
            } else {
                Check.due(method + " is private", Modifier.isPrivate(method.getModifiers()), true);
            }
        }
        Check.due("the face " + seen, seen.equals(due), true);
        Check.due("public and final", PloughField.class.getModifiers(), Modifier.PUBLIC | Modifier.FINAL);
        Constructor<?>[] made = PloughField.class.getDeclaredConstructors();
        Check.due("constructors", made.length, 1);
        Check.due("it takes nothing", made[0].getParameterCount(), 0);
        Check.due("it's public", Modifier.isPublic(made[0].getModifiers()), true);
        for (Field field : PloughField.class.getDeclaredFields()) {
            boolean isConstant = field.getName().equals("NONE");
            Check.due(field + " is private but NONE", Modifier.isPrivate(field.getModifiers()), !isConstant);
        }
    }

    private static void membersInside() {
        Set<String> names = new TreeSet<>();
        for (String one : FACE) {
            names.add(one.substring(one.indexOf(' ') + 1, one.indexOf('(')));
        }
        List<Class<?>> all = new ArrayList<>(List.of(PloughField.class.getDeclaredClasses()));
        for (Class<?> inside : all) {
            Check.due(inside + " is static", Modifier.isStatic(inside.getModifiers()), true);
            for (Method method : inside.getDeclaredMethods()) {
                Check.due(method + " bears no public name", names.contains(method.getName()), false);
            }
        }
        all.add(PloughField.class);
        Check.due("twelve classes at most: " + all.size(), all.size() <= 12, true);
        for (Class<?> one : all) {
            int fields = 0;
            for (Field field : one.getDeclaredFields()) {
                boolean isStatic = Modifier.isStatic(field.getModifiers());
                fields += isStatic ? 0 : 1;
                Check.due(field + " is final if static", isStatic && !Modifier.isFinal(field.getModifiers()), false);
            }
            Check.due(one + " has twenty fields at most: " + fields, fields <= 20, true);
            for (Method method : one.getDeclaredMethods()) {
                Check.due(method + " takes seven at most", method.getParameterCount() <= 7, true);
            }
        }
    }

    private static String source() throws IOException {
        return Files.readString(Path.of("src/main/java/PloughField.java"));
    }

    private static void words() throws IOException {
        String source = source();
        for (int i = 0; i < source.length(); i++) {
            if (source.charAt(i) > 126) {
                Check.due("sign " + i + " of the source is from 1 to 126", source.charAt(i), 0);
            }
        }
        String bare = source.replaceAll("(?s)/\\*.*?\\*/", " ").replaceAll("//[^\\n]*", " ")
                .replaceAll("\"[^\"\\n]*\"", "\"\"").replaceAll("'[^']+'", "0");
        String[] barred = {"\\bthrows?\\b", "\\btry\\b", "\\bcatch\\b", "\\bfinally\\b", "\\bsynchronized\\b",
            "\\bassert\\b", "->", "::", "\\bprotected\\b", "\\bpackage\\b", "\\bObject\\b", "\\bhashCode\\b",
            "\\btoString\\b", "Exact\\b", "\\bSystem\\.(?!arraycopy\\b)", "\\bimport (?!java\\.util\\.Arrays;)",
            "\\bstatic \\{", "\\bdouble\\b", "\\bfloat\\b", "\\bthis\\)", "@", "\"\"\\s*\\+", "\\+\\s*\"\""};
        for (String word : barred) {
            Check.due("the source holds " + word, Pattern.compile(word).matcher(bare).find(), false);
        }
        Matcher calls = Pattern.compile("\\b(Math|Long|Integer|Arrays)\\.(\\w+)").matcher(bare);
        Set<String> allowed = Set.of("Math.min", "Math.max", "Math.abs", "Long.bitCount", "Integer.bitCount",
            "Arrays.fill");
        while (calls.find()) {
            Check.due(calls.group() + " is in the list", allowed.contains(calls.group()), true);
        }
    }

    private static void methodsStayShort() throws IOException {
        String[] lines = source().split("\n");
        int begins = -1;
        String indent = "";
        for (int i = 0; i < lines.length; i++) {
            if (begins < 0 && lines[i].matches("(    |        )(\\w[\\w\\[\\] ]*\\(.*|\\w.*\\)) \\{")) {
                begins = i;
                indent = lines[i].replaceAll("\\S.*", "");
            } else if (begins >= 0 && lines[i].equals(indent + "}")) {
                Check.due(lines[begins].trim() + " has sixty lines at most", i - begins + 1 <= 60, true);
                begins = -1;
            }
        }
    }
}
