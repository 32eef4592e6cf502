import java.io.IOException;
import java.lang.reflect.Constructor;
import java.lang.reflect.Field;
import java.lang.reflect.Method;
import java.lang.reflect.Modifier;
import java.nio.file.Files;
import java.nio.file.Path;
import java.util.List;
import java.util.Set;
import java.util.TreeSet;
import java.util.regex.Matcher;
import java.util.regex.Pattern;

/** The public face is the document's, and the source keeps to those rules of LANGUAGE.md that can be seen from it. */
public final class FaceTest {
    private static final String[] FACE = {
        "write/1", "wipe/0", "fault/0", "lay/0", "level/2", "bound/2", "reach/2", "ask/3", "retract/1", "rename/2",
        "undo/0", "round/1", "follows/3", "raised/3", "top/3", "stands/4", "term/2", "empty/0", "brief/0", "below/2",
        "worth/0", "roots/1", "loose/2", "keep/0", "back/0", "count/1"};
    private static final List<String> OUTSIDE = List.of(
            "\\b(throw|throws|try|catch|synchronized|assert|volatile|transient|native|strictfp)\\b",
            "->", "::", "\\bExact", "\\b(protected|var|Object|Random|System\\.(?!arraycopy)\\w+)\\b",
            "\\bimport (?!java\\.util\\.Arrays;)", "[^\\x00-\\x7f]");

    private static final Due DUE = new Due();

    public static void main(String[] args) throws IOException {
        methods();
        fieldsAndConstructors();
        String root = args.length > 0 ? args[0] : ".";
        classesInside();
        source(Files.readString(Path.of(root, "src/main/java/UniverseLevels.java")));
        DUE.end();
    }

    private static void methods() {
        Set<String> open = new TreeSet<>();
        Set<String> closed = new TreeSet<>();
        for (Method method : UniverseLevels.class.getDeclaredMethods()) {
            int modifiers = method.getModifiers();
            if (Modifier.isPrivate(modifiers)) {
                closed.add(method.getName());
                continue;
            }
            DUE.is(method + " is public and answers an int",
                    Modifier.isPublic(modifiers) && method.getReturnType() == int.class ? 1 : 0, 1);
            open.add(method.getName() + "/" + method.getParameterCount());
        }
        Set<String> wanted = new TreeSet<>(List.of(FACE));
        DUE.is("public methods " + open + " are " + wanted, open.equals(wanted) ? 1 : 0, 1);
        for (String name : FACE) {
            String bare = name.substring(0, name.indexOf('/'));
            DUE.is("a private method is named " + bare, closed.contains(bare) ? 1 : 0, 0);
        }
    }

    private static void fieldsAndConstructors() {
        DUE.is("final", Modifier.isFinal(UniverseLevels.class.getModifiers()) ? 1 : 0, 1);
        Constructor<?>[] constructors = UniverseLevels.class.getDeclaredConstructors();
        DUE.is("constructors", constructors.length, 1);
        DUE.is("its parameters", constructors[0].getParameterCount(), 0);
        Set<String> open = new TreeSet<>();
        for (Field field : UniverseLevels.class.getDeclaredFields()) {
            int modifiers = field.getModifiers();
            if (!Modifier.isPrivate(modifiers)) {
                open.add(field.getName());
            }
            DUE.is(field + " is static only if it is final",
                    Modifier.isStatic(modifiers) && !Modifier.isFinal(modifiers) ? 1 : 0, 0);
        }
        DUE.is("open fields " + open, open.equals(Set.of("BAD", "NO", "FULL", "NONE")) ? 1 : 0, 1);
        DUE.is("BAD", UniverseLevels.BAD, -1);
        DUE.is("NO", UniverseLevels.NO, -2);
        DUE.is("FULL", UniverseLevels.FULL, -3);
        DUE.is("NONE", UniverseLevels.NONE, -4);
    }

    /** Rules 1, 2 and 11: few classes, private or package-visible and static, none too wide. */
    private static void classesInside() {
        Class<?>[] inside = UniverseLevels.class.getDeclaredClasses();
        DUE.is("classes are more than twelve", inside.length > 11 ? 1 : 0, 0);
        DUE.is("too many fields", fieldsOf(UniverseLevels.class) > 20 ? 1 : 0, 0);
        for (Class<?> one : inside) {
            DUE.is(one + " is static", Modifier.isStatic(one.getModifiers()) ? 1 : 0, 1);
            DUE.is(one + " is open", one.getModifiers() & (Modifier.PUBLIC | Modifier.PROTECTED), 0);
            DUE.is(one + " holds a class", one.getDeclaredClasses().length, 0);
            DUE.is(one + " has too many fields", fieldsOf(one) > 20 ? 1 : 0, 0);
            for (Method method : one.getDeclaredMethods()) {
                DUE.is(method + " bears a name of the face", isOfFace(method.getName()) ? 1 : 0, 0);
                DUE.is(method + " takes too much", method.getParameterCount() > 7 ? 1 : 0, 0);
            }
        }
    }

    private static int fieldsOf(Class<?> one) {
        int many = 0;
        for (Field field : one.getDeclaredFields()) {
            many += Modifier.isStatic(field.getModifiers()) ? 0 : 1;
        }
        return many;
    }

    private static boolean isOfFace(String name) {
        for (String one : FACE) {
            if (one.startsWith(name + "/")) {
                return true;
            }
        }
        return false;
    }

    /** All calls live in one room: what an object needs is made with it, and no call makes more. */
    private static void nothingIsMadeByCalls(String code) {
        int from = code.indexOf("public UniverseLevels() {");
        int to = code.indexOf("\n    }\n", from);
        DUE.is("no constructor was found", from < 0 || to < 0 ? 1 : 0, 0);
        String outside = code.substring(0, Math.max(0, from)) + code.substring(Math.max(0, to));
        for (String line : outside.split("\n")) {
            if (line.contains("new ")) {
                DUE.is("made by a call: " + line, line.matches(" +private final \\S+ \\w+ = new .*;") ? 1 : 0, 1);
            }
        }
    }

    private static void source(String source) {
        String code = source.replaceAll("(?s)/\\*.*?\\*/", "").replaceAll("//[^\n]*", "");
        for (String pattern : OUTSIDE) {
            Matcher matcher = Pattern.compile(pattern).matcher(code);
            DUE.is("outside the rules: " + pattern, matcher.find() ? 1 : 0, 0);
        }
        nothingIsMadeByCalls(code);
        int longest = 0;
        Matcher method = Pattern.compile("(?ms)^( {4,8})(?:private|public) [^;=]*?\\) \\{$.*?^\\1\\}$").matcher(source);
        while (method.find()) {
            longest = Math.max(longest, method.group().split("\n").length);
        }
        DUE.is("no method was found", longest < 10 ? 1 : 0, 0);
        DUE.is("a method is longer than sixty lines", longest > 60 ? 1 : 0, 0);
    }
}
