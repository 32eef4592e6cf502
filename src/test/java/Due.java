import java.util.function.IntUnaryOperator;

/** Counts the answers that are not as due. */
final class Due {
    /** Far out on both sides, and such as would wrap around to a small number in a byte, a short or a char. */
    private static final int[] FAR = {
        Integer.MIN_VALUE, Integer.MIN_VALUE + 1, -65536, -256, 256, 65536, Integer.MAX_VALUE - 1, Integer.MAX_VALUE};

    private String part = "";
    private int wrong;
    private int looked;

    /** What is looked at from here on is told with this name. */
    void begin(String name) {
        part = name + ": ";
    }

    void is(String call, long got, long want) {
        looked++;
        if (got != want) {
            wrong++;
            System.out.println(part + call + " answered " + got + ", due is " + want);
        }
    }

    /** Each number in its place; the call's name is told with the place. */
    void are(String call, int[] got, int... want) {
        is(call + " how many", got.length, want.length);
        for (int i = 0; i < Math.min(got.length, want.length); i++) {
            is(call + " [" + i + "]", got[i], want[i]);
        }
    }

    /** One number of a call, the others being right: BAD for the near ones that are told, and for all far out. */
    void isBad(String call, IntUnaryOperator answer, int... near) {
        for (int number : near) {
            is(call + " with " + number, answer.applyAsInt(number), UniverseLevels.BAD);
        }
        for (int number : FAR) {
            is(call + " with " + number, answer.applyAsInt(number), UniverseLevels.BAD);
        }
    }

    void fails(String what) {
        is(what, 0, 1);
    }

    boolean isSpotless() {
        return wrong == 0;
    }

    void end() {
        System.out.println(wrong == 0 ? looked + " answers are as due" : wrong + " of " + looked + " are not as due");
        if (wrong != 0) {
            System.exit(1);
        }
    }
}
