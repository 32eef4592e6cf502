import java.lang.reflect.InvocationTargetException;
import java.lang.reflect.Method;
import java.lang.reflect.Modifier;
import java.util.Arrays;

/** Every method with numbers far out, in several states: no call may throw, and each answers as the model does. */
public final class ExtremesTest {
    private static final int[] NUMBERS = {
        Integer.MIN_VALUE, Integer.MIN_VALUE + 1, -1000000, -101, -11, -2, -1, 0, 1, 9, 10, 11, 16, 32, 33, 100, 200,
        1000000, Integer.MAX_VALUE - 1, Integer.MAX_VALUE};
    private static final String[] TEXTS = {
        "", "v0;", "v1;v1;", "v0;v2;c0,1,1;d1,0,9;c1,9,0;",
        "v0;v1;v2;v3;v0;v1;v2;v3;v0;v1;c0,1,1;c1,1,2;c2,0,3;c3,0,4;c4,0,5;c5,0,6;c6,0,7;c7,0,8;c8,0,9;d9,0,9;c9,9,0;"};
    /** Of ten LEVELS in a line, as many BOUNDS as there is room for, and two more. */
    private static final String FULL_TEXT = "v1;".repeat(10)
            + "c0,1,1;c1,1,2;c2,0,3;c3,0,4;c4,0,5;c5,0,6;c6,0,7;c7,0,8;c8,0,9;" + "c0,0,1;".repeat(9);

    public static void main(String[] args) throws ReflectiveOperationException {
        Due due = new Due();
        for (Method method : UniverseLevels.class.getDeclaredMethods()) {
            if (Modifier.isPublic(method.getModifiers())) {
                for (String text : TEXTS) {
                    callWithAll(due, text, method, false);
                }
                callWithAll(due, FULL_TEXT, method, true);
            }
        }
        due.end();
    }

    /** As many TERMS, states KEPT and calls that can be UNDONE as there is room for, and one more of each. */
    private static void fill(Due due, UniverseLevels real, Model model) {
        for (int i = 0; i < 9; i++) {
            due.is("term", real.term(i, 9 - i), model.term(i, 9 - i));
            due.is("keep", real.keep(), model.keep());
            due.is("rename", real.rename(i, i % 2 * 2), model.rename(i, i % 2 * 2));
        }
        due.is("ask", real.ask(9, 9, 0), model.ask(9, 9, 0));
    }

    private static void callWithAll(Due due, String text, Method method, boolean full)
            throws ReflectiveOperationException {
        Method wanted = Model.class.getDeclaredMethod(method.getName(), method.getParameterTypes());
        int parameters = method.getParameterCount();
        int choices = (int) Math.pow(NUMBERS.length, parameters);
        // An object is good for 512 calls, so a new one comes now and then; with four numbers some are left out.
        UniverseLevels real = null;
        Model model = null;
        int step = parameters == 4 ? 37 : 1;
        int calls = 512;
        for (int choice = 0; choice < choices; choice += step) {
            if (calls > 500) {
                real = new UniverseLevels();
                model = new Model();
                for (char letter : text.toCharArray()) {
                    real.write(letter);
                    model.write(letter);
                }
                due.is("lay", real.lay(), model.lay());
                calls = text.length() + 1;
                if (full) {
                    fill(due, real, model);
                    calls += 28;
                }
            }
            Object[] numbers = new Object[parameters];
            int left = choice;
            for (int i = 0; i < parameters; i++) {
                numbers[i] = NUMBERS[left % NUMBERS.length];
                left /= NUMBERS.length;
            }
            String call = method.getName() + Arrays.toString(numbers) + " after " + text;
            due.is(call, answer(method, real, numbers, call), answer(wanted, model, numbers, call));
            calls++;
        }
    }

    private static int answer(Method method, Object on, Object[] numbers, String call)
            throws ReflectiveOperationException {
        try {
            return (Integer) method.invoke(on, numbers);
        } catch (InvocationTargetException thrown) {
            System.out.println(call + " threw " + thrown.getCause());
            return Integer.MIN_VALUE;
        }
    }
}
