import java.io.IOException;
import java.lang.reflect.Field;
import java.lang.reflect.Method;
import java.lang.reflect.Modifier;
import java.nio.file.Files;
import java.nio.file.Path;
import java.util.ArrayList;
import java.util.List;
import java.util.Map;
import java.util.Set;
import java.util.TreeMap;
import java.util.TreeSet;
import java.util.regex.Matcher;
import java.util.regex.Pattern;

/** The source keeps to those rules of LANGUAGE.md that can be seen from it; the numbers are theirs. */
public final class RulesTest {
    /** Rules 2, 3, 6 and 13: words and signs that the class has no need of. */
    private static final List<String> OUTSIDE = List.of(
            "\\b(throw|throws|try|catch|synchronized|assert|volatile|transient|native|strictfp|package)\\b",
            "\\b(protected|var|Object|Random|Thread|double|float|instanceof|while|do|equals|hashCode|toString)\\b",
            "->", "::", "\\bstatic \\{", "[^\\x00-\\x7f]");
    /** Rule 4: of the library no more than this. */
    private static final Set<String> LIBRARY = Set.of("Math.max", "Math.min", "Arrays.fill", "System.arraycopy");
    private static final Set<String> LIBRARY_CALLS =
            Set.of("max", "min", "fill", "arraycopy", "length", "charAt");
    private static final Set<String> WORDS = Set.of("if", "for", "switch", "return");
    private static final Pattern METHOD = Pattern.compile(
            "(?ms)^( {4,8})(?:private|public) (?:static )?(?:[\\w\\[\\]]+ )?(\\w+)\\([^)]*\\) \\{$(.*?)^\\1\\}$");
    private static final Pattern CALL = Pattern.compile("(?<!new )\\b(\\w+)\\(");
    private static final Pattern LOOP = Pattern.compile(
            "for \\(int (\\w+) = [^;]+; \\1 (?:(?:<|<=) [^;]+; \\1\\+\\+|(?:>|>=) [^;]+; \\1--)\\) \\{");
    private static final int MOST_LINES = 60;
    private static final int MOST_PARAMETERS = 7;
    private static final int MOST_DEEP = 8;
    private static final int MOST_CLASSES = 12;
    private static final int MOST_FIELDS = 20;
    private static final Due DUE = new Due();

    public static void main(String[] args) throws IOException {
        String root = args.length > 0 ? args[0] : ".";
        String source = Files.readString(Path.of(root, "src/main/java/UniverseLevels.java"));
        String code = source.replaceAll("(?s)/\\*.*?\\*/", "").replaceAll("//[^\n]*", "");
        classesInside();
        staticFields();
        words(code);
        library(code);
        loops(code);
        nothingIsMadeByCalls(code);
        methods(code);
        DUE.end();
    }

    /** Rules 1, 2 and 11: few classes, private or package-visible and static, none too wide. */
    private static void classesInside() {
        Class<?>[] inside = UniverseLevels.class.getDeclaredClasses();
        Set<String> face = new TreeSet<>();
        for (Method method : UniverseLevels.class.getMethods()) {
            face.add(method.getName());
        }
        DUE.is("too many classes", inside.length + 1 > MOST_CLASSES ? 1 : 0, 0);
        DUE.is("too many fields", fieldsOf(UniverseLevels.class) > MOST_FIELDS ? 1 : 0, 0);
        for (Class<?> one : inside) {
            DUE.is(one + " is static", Modifier.isStatic(one.getModifiers()) ? 1 : 0, 1);
            DUE.is(one + " is open", one.getModifiers() & (Modifier.PUBLIC | Modifier.PROTECTED), 0);
            DUE.is(one + " holds a class", one.getDeclaredClasses().length, 0);
            DUE.is(one + " has too many fields", fieldsOf(one) > MOST_FIELDS ? 1 : 0, 0);
            for (Method method : one.getDeclaredMethods()) {
                DUE.is(method + " bears a name of the face", face.contains(method.getName()) ? 1 : 0, 0);
                DUE.is(method + " takes too much", method.getParameterCount() > MOST_PARAMETERS ? 1 : 0, 0);
            }
        }
        for (Method method : UniverseLevels.class.getDeclaredMethods()) {
            DUE.is(method + " takes too much", method.getParameterCount() > MOST_PARAMETERS ? 1 : 0, 0);
        }
    }

    private static int fieldsOf(Class<?> one) {
        int many = 0;
        for (Field field : one.getDeclaredFields()) {
            many += Modifier.isStatic(field.getModifiers()) ? 0 : 1;
        }
        return many;
    }

    /** Rule 5: static fields are constants of numbers and texts. */
    private static void staticFields() {
        for (Field field : UniverseLevels.class.getDeclaredFields()) {
            if (Modifier.isStatic(field.getModifiers())) {
                DUE.is(field + " is final", Modifier.isFinal(field.getModifiers()) ? 1 : 0, 1);
                boolean isPlain = field.getType() == int.class || field.getType() == String.class;
                DUE.is(field + " is a number or a text", isPlain ? 1 : 0, 1);
            }
        }
    }

    private static void words(String code) {
        for (String pattern : OUTSIDE) {
            Matcher found = Pattern.compile(pattern).matcher(code);
            DUE.is("outside the rules: " + pattern, found.find() ? 1 : 0, 0);
        }
        Matcher imported = Pattern.compile("\\bimport ([\\w.]+);").matcher(code);
        while (imported.find()) {
            DUE.is("imported: " + imported.group(1), imported.group(1).equals("java.util.Arrays") ? 1 : 0, 1);
        }
    }

    /** Rule 4: what is called is the class's own, or stands in the list. */
    private static void library(String code) {
        Matcher called = Pattern.compile("\\b([A-Z][a-z]\\w*\\.\\w+)\\(").matcher(code);
        while (called.find()) {
            DUE.is("called: " + called.group(1), LIBRARY.contains(called.group(1)) ? 1 : 0, 1);
        }
        Set<String> own = bodies(code).keySet();
        Matcher any = CALL.matcher(code);
        while (any.find()) {
            String name = any.group(1);
            boolean isKnown = own.contains(name) || WORDS.contains(name) || LIBRARY_CALLS.contains(name);
            DUE.is("called: " + name, isKnown ? 1 : 0, 1);
        }
    }

    /** Rule 9: each loop counts towards a bound that stands in its own line. */
    private static void loops(String code) {
        int all = 0;
        Matcher loop = Pattern.compile("\\bfor \\(").matcher(code);
        while (loop.find()) {
            all++;
        }
        int counted = 0;
        Matcher right = LOOP.matcher(code);
        while (right.find()) {
            counted++;
        }
        DUE.is("no loop was found", all == 0 ? 1 : 0, 0);
        DUE.is("loops that count towards a bound", counted, all);
    }

    /** Rule 12, and the one room of all calls: what an object needs is made with it, and no call makes more. */
    private static void nothingIsMadeByCalls(String code) {
        int from = code.indexOf("public UniverseLevels() {");
        int to = code.indexOf("\n    }\n", from);
        DUE.is("no constructor was found", from < 0 || to < 0 ? 1 : 0, 0);
        String outside = code.substring(0, Math.max(0, from)) + code.substring(Math.max(0, to));
        for (String line : outside.split("\n")) {
            if (line.contains("new ") || line.contains("clone") || line.contains("copyOf")) {
                DUE.is("made by a call: " + line, line.matches(" +private final \\S+ \\w+ = new .*;") ? 1 : 0, 1);
            }
        }
    }

    /** Rules 8 and 11: methods are short, none calls itself in any way, calls don't go too deep. */
    private static void methods(String code) {
        Map<String, String> bodies = bodies(code);
        DUE.is("too few methods were found", bodies.size() < 60 ? 1 : 0, 0);
        for (String name : bodies.keySet()) {
            DUE.is(name + " is too deep", depth(bodies, name, new ArrayList<>()) > MOST_DEEP ? 1 : 0, 0);
        }
        Matcher method = METHOD.matcher(code);
        while (method.find()) {
            DUE.is(method.group(2) + " is too long", method.group().split("\n").length > MOST_LINES ? 1 : 0, 0);
        }
    }

    /** By name, as nothing else is seen here: methods of one name in two classes are taken for one, with both bodies. */
    private static Map<String, String> bodies(String code) {
        Map<String, String> found = new TreeMap<>();
        Matcher method = METHOD.matcher(code);
        while (method.find()) {
            found.merge(method.group(2), method.group(3), String::concat);
        }
        return found;
    }

    private static int depth(Map<String, String> bodies, String name, List<String> open) {
        DUE.is(name + " is called by itself: " + open, open.contains(name) ? 1 : 0, 0);
        if (!bodies.containsKey(name) || open.contains(name)) {
            return 1;
        }
        open.add(name);
        int deepest = 0;
        Matcher call = CALL.matcher(bodies.get(name));
        while (call.find()) {
            if (!WORDS.contains(call.group(1))) {
                deepest = Math.max(deepest, depth(bodies, call.group(1), open));
            }
        }
        open.remove(name);
        return deepest + 1;
    }
}
