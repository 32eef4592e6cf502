import java.lang.reflect.Constructor;
import java.lang.reflect.Field;
import java.lang.reflect.Method;
import java.lang.reflect.Modifier;
import java.util.List;
import java.util.Set;
import java.util.TreeSet;

/** The public face is the document's. */
public final class FaceTest {
    private static final String[] FACE = {
        "write/1", "wipe/0", "fault/0", "lay/0", "level/2", "bound/2", "reach/2", "ask/3", "retract/1", "rename/2",
        "undo/0", "round/1", "follows/3", "raised/3", "top/3", "stands/4", "term/2", "empty/0", "brief/0", "below/2",
        "worth/0", "roots/1", "loose/2", "keep/0", "back/0", "count/1"};
    private static final Due DUE = new Due();

    public static void main(String[] args) {
        classItself();
        methods();
        constructor();
        constants();
        DUE.end();
    }

    private static void classItself() {
        int modifiers = UniverseLevels.class.getModifiers();
        DUE.is("public", Modifier.isPublic(modifiers) ? 1 : 0, 1);
        DUE.is("final", Modifier.isFinal(modifiers) ? 1 : 0, 1);
        DUE.is("in no package", UniverseLevels.class.getPackageName().length(), 0);
        DUE.is("of no other class", UniverseLevels.class.getSuperclass() == Object.class ? 1 : 0, 1);
        DUE.is("of no interface", UniverseLevels.class.getInterfaces().length, 0);
    }

    private static void methods() {
        Set<String> open = new TreeSet<>();
        Set<String> closed = new TreeSet<>();
        for (Method method : UniverseLevels.class.getDeclaredMethods()) {
            if (Modifier.isPrivate(method.getModifiers())) {
                closed.add(method.getName());
                continue;
            }
            DUE.is(method + " is public and no more", method.getModifiers(), Modifier.PUBLIC);
            DUE.is(method + " answers an int", method.getReturnType() == int.class ? 1 : 0, 1);
            for (Class<?> parameter : method.getParameterTypes()) {
                DUE.is(method + " takes ints", parameter == int.class ? 1 : 0, 1);
            }
            open.add(method.getName() + "/" + method.getParameterCount());
        }
        Set<String> wanted = new TreeSet<>(List.of(FACE));
        DUE.is("public methods " + open + " are " + wanted, open.equals(wanted) ? 1 : 0, 1);
        for (String name : FACE) {
            String bare = name.substring(0, name.indexOf('/'));
            DUE.is("a private method is named " + bare, closed.contains(bare) ? 1 : 0, 0);
        }
    }

    private static void constructor() {
        Constructor<?>[] constructors = UniverseLevels.class.getDeclaredConstructors();
        DUE.is("constructors", constructors.length, 1);
        DUE.is("it is public", constructors[0].getModifiers(), Modifier.PUBLIC);
        DUE.is("its parameters", constructors[0].getParameterCount(), 0);
    }

    private static void constants() {
        Set<String> open = new TreeSet<>();
        for (Field field : UniverseLevels.class.getDeclaredFields()) {
            if (!Modifier.isPrivate(field.getModifiers())) {
                open.add(field.getName());
                DUE.is(field + " is a constant", field.getModifiers(),
                        Modifier.PUBLIC | Modifier.STATIC | Modifier.FINAL);
                DUE.is(field + " is an int", field.getType() == int.class ? 1 : 0, 1);
            }
        }
        DUE.is("open fields " + open, open.equals(Set.of("BAD", "NO", "FULL", "NONE")) ? 1 : 0, 1);
        DUE.is("BAD", UniverseLevels.BAD, -1);
        DUE.is("NO", UniverseLevels.NO, -2);
        DUE.is("FULL", UniverseLevels.FULL, -3);
        DUE.is("NONE", UniverseLevels.NONE, -4);
    }
}
