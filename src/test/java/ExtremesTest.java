import java.lang.reflect.InvocationTargetException;
import java.lang.reflect.Method;

/** Every method with numbers far out, in several states: no call may throw, and each answers as the model does. */
public final class ExtremesTest {
    private static final int[] NUMBERS = {
        Integer.MIN_VALUE, Integer.MIN_VALUE + 1, -1000000, -101, -11, -2, -1, 0, 1, 9, 10, 11, 16, 32, 33, 100, 200,
        1000000, Integer.MAX_VALUE - 1, Integer.MAX_VALUE};
    private static final String[] TEXTS = {
        "", "v0;", "v1;v1;", "v0;v2;c0,1,1;d1,0,9;c1,9,0;",
        "v0;v1;v2;v3;v0;v1;v2;v3;v0;v1;c0,1,1;c1,1,2;c2,0,3;c3,0,4;c4,0,5;c5,0,6;c6,0,7;c7,0,8;c8,0,9;d9,0,9;c9,9,0;"};

    public static void main(String[] args) throws ReflectiveOperationException {
        Due due = new Due();
        for (String text : TEXTS) {
            for (Method method : UniverseLevels.class.getDeclaredMethods()) {
                if (java.lang.reflect.Modifier.isPublic(method.getModifiers())) {
                    callWithAll(due, text, method);
                }
            }
        }
        due.end();
    }

    private static void callWithAll(Due due, String text, Method method) throws ReflectiveOperationException {
        Method wanted = Model.class.getDeclaredMethod(method.getName(), method.getParameterTypes());
        int parameters = method.getParameterCount();
        int choices = (int) Math.pow(NUMBERS.length, parameters);
        // An object is good for 512 calls, so a new one comes now and then; with four numbers some are left out.
        UniverseLevels real = null;
        Model model = null;
        int step = parameters == 4 ? 37 : 1;
        int calls = 512;
        for (int choice = 0; choice < choices; choice += step) {
            if (calls > 500) {
                real = new UniverseLevels();
                model = new Model();
                for (char letter : text.toCharArray()) {
                    real.write(letter);
                    model.write(letter);
                }
                due.is("lay", real.lay(), model.lay());
                calls = text.length() + 1;
            }
            Object[] numbers = new Object[parameters];
            int left = choice;
            for (int i = 0; i < parameters; i++) {
                numbers[i] = NUMBERS[left % NUMBERS.length];
                left /= NUMBERS.length;
            }
            String call = method.getName() + java.util.Arrays.toString(numbers) + " after " + text;
            due.is(call, answer(method, real, numbers, call), answer(wanted, model, numbers, call));
            calls++;
        }
    }

    private static int answer(Method method, Object on, Object[] numbers, String call)
            throws ReflectiveOperationException {
        try {
            return (Integer) method.invoke(on, numbers);
        } catch (InvocationTargetException thrown) {
            System.out.println(call + " threw " + thrown.getCause());
            return Integer.MIN_VALUE;
        }
    }
}
