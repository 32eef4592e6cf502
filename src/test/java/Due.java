/** Counts the answers that are not as due. */
final class Due {
    private int wrong;
    private int looked;

    void is(String call, long got, long want) {
        looked++;
        if (got != want) {
            wrong++;
            System.out.println(call + " answered " + got + ", due is " + want);
        }
    }

    /** Each number in its place; the call's name is told with the place. */
    void are(String call, int[] got, int... want) {
        is(call + " how many", got.length, want.length);
        for (int i = 0; i < Math.min(got.length, want.length); i++) {
            is(call + " [" + i + "]", got[i], want[i]);
        }
    }

    boolean isSpotless() {
        return wrong == 0;
    }

    void end() {
        System.out.println(wrong == 0 ? looked + " answers are as due" : wrong + " of " + looked + " are not as due");
        if (wrong != 0) {
            System.exit(1);
        }
    }
}
