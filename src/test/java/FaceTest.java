import java.io.IOException;
import java.lang.reflect.Constructor;
import java.lang.reflect.Field;
import java.lang.reflect.Method;
import java.lang.reflect.Modifier;
import java.nio.file.Files;
import java.nio.file.Path;
import java.util.List;
import java.util.Set;
import java.util.TreeSet;
import java.util.regex.Matcher;
import java.util.regex.Pattern;

/** The public face is the document's, and the source keeps to those rules of LANGUAGE.md that can be seen from it. */
public final class FaceTest {
    private static final String[] FACE = {
        "write/1", "wipe/0", "fault/0", "lay/0", "level/2", "bound/2", "reach/2", "ask/3", "retract/1", "rename/2",
        "undo/0", "round/1", "follows/3", "raised/3", "top/3", "stands/4", "term/2", "empty/0", "brief/0", "below/2",
        "worth/0", "roots/1", "loose/2", "keep/0", "back/0", "count/1"};
    private static final List<String> OUTSIDE = List.of(
            "\\b(throw|throws|try|catch|synchronized|assert|volatile|transient|native|strictfp)\\b",
            "->", "::", "\\bExact", "\\b(protected|var|Object|Random|System\\.(?!arraycopy)\\w+)\\b",
            "\\bimport (?!java\\.util\\.Arrays;)", "[^\\x00-\\x7f]");

    private static final Due DUE = new Due();

    public static void main(String[] args) throws IOException {
        methods();
        fieldsAndConstructors();
        String root = args.length > 0 ? args[0] : ".";
        source(Files.readString(Path.of(root, "src/main/java/UniverseLevels.java")));
        DUE.end();
    }

    private static void methods() {
        Set<String> open = new TreeSet<>();
        Set<String> closed = new TreeSet<>();
        for (Method method : UniverseLevels.class.getDeclaredMethods()) {
            int modifiers = method.getModifiers();
            if (Modifier.isPrivate(modifiers)) {
                closed.add(method.getName());
                continue;
            }
            DUE.is(method + " is public and answers an int",
                    Modifier.isPublic(modifiers) && method.getReturnType() == int.class ? 1 : 0, 1);
            open.add(method.getName() + "/" + method.getParameterCount());
        }
        Set<String> wanted = new TreeSet<>(List.of(FACE));
        DUE.is("public methods " + open + " are " + wanted, open.equals(wanted) ? 1 : 0, 1);
        for (String name : FACE) {
            String bare = name.substring(0, name.indexOf('/'));
            DUE.is("a private method is named " + bare, closed.contains(bare) ? 1 : 0, 0);
        }
    }

    private static void fieldsAndConstructors() {
        DUE.is("final", Modifier.isFinal(UniverseLevels.class.getModifiers()) ? 1 : 0, 1);
        Constructor<?>[] constructors = UniverseLevels.class.getDeclaredConstructors();
        DUE.is("constructors", constructors.length, 1);
        DUE.is("its parameters", constructors[0].getParameterCount(), 0);
        Set<String> open = new TreeSet<>();
        for (Field field : UniverseLevels.class.getDeclaredFields()) {
            int modifiers = field.getModifiers();
            if (!Modifier.isPrivate(modifiers)) {
                open.add(field.getName());
            }
            DUE.is(field + " is static only if it is final",
                    Modifier.isStatic(modifiers) && !Modifier.isFinal(modifiers) ? 1 : 0, 0);
        }
        DUE.is("open fields " + open, open.equals(Set.of("BAD", "NO", "FULL", "NONE")) ? 1 : 0, 1);
        DUE.is("BAD", UniverseLevels.BAD, -1);
        DUE.is("NO", UniverseLevels.NO, -2);
        DUE.is("FULL", UniverseLevels.FULL, -3);
        DUE.is("NONE", UniverseLevels.NONE, -4);
    }

    private static void source(String source) {
        String code = source.replaceAll("(?s)/\\*.*?\\*/", "").replaceAll("//[^\n]*", "");
        for (String pattern : OUTSIDE) {
            Matcher matcher = Pattern.compile(pattern).matcher(code);
            DUE.is("outside the rules: " + pattern, matcher.find() ? 1 : 0, 0);
        }
        int longest = 0;
        Matcher method = Pattern.compile("(?ms)^( {4,8})(?:private|public) [^;=]*?\\) \\{$.*?^\\1\\}$").matcher(source);
        while (method.find()) {
            longest = Math.max(longest, method.group().split("\n").length);
        }
        DUE.is("no method was found", longest < 10 ? 1 : 0, 0);
        DUE.is("a method is longer than sixty lines", longest > 60 ? 1 : 0, 0);
    }
}
