import java.io.IOException;
import java.lang.reflect.Constructor;
import java.lang.reflect.Field;
import java.lang.reflect.Method;
import java.lang.reflect.Modifier;
import java.nio.charset.StandardCharsets;
import java.nio.file.Files;
import java.nio.file.Path;
import java.util.Map;
import java.util.Set;
import java.util.TreeMap;
import java.util.TreeSet;
import java.util.regex.Matcher;
import java.util.regex.Pattern;

/** The document's face, and those rules of ../shared/LANGUAGE.md that a text or reflection shows. */
final class LanguageTest {
    private static final Set<String> FACE = new TreeSet<>(Set.of(
        "int board(int,int)", "int set(int,int,int)", "int at(int,int)", "int size(int)", "int whole(int)",
        "int touch(int,int)", "int kind(int,int,int,int)", "int about(int,int)"));
    private static final Set<String> CONSTANTS = new TreeSet<>(Set.of(
        "BAD -1", "STATE -2", "FULL -3", "SEA -4", "NONE -9"));

    static {
        FACE.addAll(Set.of("int leaves(int,int)", "int may(int,int,int)", "int move(int,int,int)",
            "int want(int,int)", "int miss()", "int steps(int)", "int undo(int)", "int label(int,int)"));
        FACE.addAll(Set.of("int longer(int,int,int)", "int box(int,int,int)", "int best()", "int keep(int)",
            "int back(int)", "int moved(int,int)", "int count(int)", "long trace()"));
    }

    private LanguageTest() {
    }

    public static void main(String[] args) throws IOException, IllegalAccessException {
        face();
        constants();
        classes();
        words(Files.readString(Path.of("src/main/java/LandBoard.java"), StandardCharsets.ISO_8859_1));
        Check.end("LanguageTest");
    }

    private static void rule(String rule, boolean kept) {
        Check.due(rule, kept ? 1 : 0, 1);
    }

    private static void face() {
        Set<String> found = new TreeSet<>();
        Set<String> names = new TreeSet<>();
        for (String method : FACE) {
            names.add(method.substring(method.indexOf(' ') + 1, method.indexOf('(')));
        }
        for (Method method : LandBoard.class.getDeclaredMethods()) {
            if (Modifier.isPublic(method.getModifiers())) {
                found.add(line(method));
                rule("rule 1: no static " + method, !Modifier.isStatic(method.getModifiers()));
            } else {
                dueHidden(method, names);
            }
        }
        for (Class<?> inside : LandBoard.class.getDeclaredClasses()) {
            for (Method method : inside.getDeclaredMethods()) {
                rule("rule 1: a name of the face " + method, !names.contains(method.getName()));
                rule("rule 11: parameters " + method, method.getParameterCount() <= 7);
            }
        }
        rule("rule 1: the face is " + found, found.equals(FACE));
        Constructor<?>[] made = LandBoard.class.getDeclaredConstructors();
        rule("rule 1: one public constructor", made.length == 1 && made[0].getParameterCount() == 0
            && Modifier.isPublic(made[0].getModifiers()));
        int of = LandBoard.class.getModifiers();
        rule("rule 1: public and final", Modifier.isPublic(of) && Modifier.isFinal(of));
    }

    private static void dueHidden(Method method, Set<String> names) {
        rule("rule 1: private " + method, Modifier.isPrivate(method.getModifiers()));
        rule("rule 1: a name of the face " + method, !names.contains(method.getName()));
        rule("rule 11: parameters " + method, method.getParameterCount() <= 7);
    }

    private static String line(Method method) {
        StringBuilder line = new StringBuilder();
        for (Class<?> type : method.getParameterTypes()) {
            line.append(line.length() == 0 ? "" : ",").append(type);
        }
        return method.getReturnType() + " " + method.getName() + "(" + line + ")";
    }

    private static void constants() throws IllegalAccessException {
        Set<String> found = new TreeSet<>();
        for (Field field : LandBoard.class.getDeclaredFields()) {
            int of = field.getModifiers();
            if (Modifier.isPublic(of)) {
                rule("rule 1: static, final " + field, Modifier.isStatic(of) && Modifier.isFinal(of));
                found.add(field.getName() + " " + field.getInt(null));
            } else {
                rule("rule 1: private " + field, Modifier.isPrivate(of));
                rule("rule 5: final " + field, !Modifier.isStatic(of) || Modifier.isFinal(of));
            }
        }
        rule("rule 1: the constants are " + found, found.equals(CONSTANTS));
    }

    private static void classes() {
        Class<?>[] inside = LandBoard.class.getDeclaredClasses();
        rule("rule 11: some twelve classes", inside.length < 12);
        for (Class<?> one : inside) {
            int of = one.getModifiers();
            rule("rule 1: static, not public " + one, Modifier.isStatic(of) && !Modifier.isPublic(of)
                && !Modifier.isProtected(of));
            int fields = 0;
            for (Field field : one.getDeclaredFields()) {
                fields += Modifier.isStatic(field.getModifiers()) ? 0 : 1;
            }
            rule("rule 11: some twenty fields " + one, fields <= 20);
        }
    }

    private static void words(String source) {
        String code = source.replaceAll("(?s)/\\*.*?\\*/", "").replaceAll("//[^\n]*", "");
        String[] refused = {"\\bthrow\\b", "\\btry\\b", "\\bcatch\\b", "\\bsynchronized\\b", "\\bassert\\b",
            "\\bpackage\\b", "\\bimport\\b", "->", "::", "\\bjava\\.", "\\bstatic\\s*\\{", "Exact\\b",
            "\\bThread\\b", "\\bSystem\\.(?!arraycopy)", "\\bObject\\b", "@", "\\bNaN\\b", "\\bfinalize\\b"};
        for (String word : refused) {
            Matcher matcher = Pattern.compile(word).matcher(code);
            rule("rules 1 to 13: " + word, !matcher.find());
        }
        for (int k = 0; k < source.length(); k++) {
            if (source.charAt(k) > 126) {
                rule("rule 4: the sign at " + k, false);
            }
        }
        methods(code);
    }

    /** A method begins with a line that ends with ") {" and is not a statement, and ends where its indent comes back. */
    private static void methods(String code) {
        String[] lines = code.split("\n");
        Map<String, String> bodies = new TreeMap<>();
        for (int k = 0; k < lines.length; k++) {
            if (lines[k].matches("( {4}| {8})(public|private|static|final|int|long|boolean|void|[A-Z]\\w*) .*\\) \\{")) {
                String end = lines[k].replaceAll("\\S.*", "") + "}";
                StringBuilder body = new StringBuilder();
                int last = k;
                while (last < lines.length && !lines[last].equals(end)) {
                    body.append(last == k ? "" : lines[last] + "\n");
                    last++;
                }
                rule("rule 11: some sixty lines " + lines[k].trim(), last - k <= 60);
                bodies.merge(lines[k].replaceAll("\\(.*", "").replaceAll(".* ", ""), body.toString(), String::concat);
            }
        }
        calls(bodies);
    }

    private static void calls(Map<String, String> bodies) {
        rule("rule 8: methods are found", bodies.size() > FACE.size());
        for (String name : bodies.keySet()) {
            int deep = deep(name, bodies, 0);
            rule("rules 8, 11: no recursion, calls at most eight deep, " + name + " is " + deep, deep <= 8);
        }
    }

    /** How many calls stand open at once when a method is called; a method that comes back to itself has no end. */
    private static int deep(String name, Map<String, String> bodies, int open) {
        int deepest = 0;
        Matcher called = Pattern.compile("\\b(\\w+)\\(").matcher(bodies.get(name));
        while (open < 20 && called.find()) {
            if (bodies.containsKey(called.group(1))) {
                deepest = Math.max(deepest, deep(called.group(1), bodies, open + 1));
            }
        }
        return deepest + 1;
    }
}
