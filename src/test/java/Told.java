/** Objects that are told something, and what is seen of them. */
final class Told {
    static final int BAD = UniverseLevels.BAD;
    static final int NO = UniverseLevels.NO;
    static final int FULL = UniverseLevels.FULL;
    static final int NONE = UniverseLevels.NONE;

    /** Ten STRICT LEVELS in a line, each 10 above the one before it: the greatest REACH is 90. */
    static final String STEEP = "v2;".repeat(10) + "c0,9,1;c1,9,2;c2,9,3;c3,9,4;c4,9,5;c5,9,6;c6,9,7;c7,9,8;c8,9,9;";
    /** Ten LAX LEVELS in a line, each 10 below the one before it at most: the least REACH is -90. */
    static final String SUNK = "v3;".repeat(10) + "d0,1,9;d1,2,9;d2,3,9;d3,4,9;d4,5,9;d5,6,9;d6,7,9;d7,8,9;d8,9,9;";
    /** Ten FIXED LEVELS in a round of 0. */
    static final String RING =
            "v0;".repeat(10) + "c0,0,1;c1,0,2;c2,0,3;c3,0,4;c4,0,5;c5,0,6;c6,0,7;c7,0,8;c8,0,9;c9,0,0;";

    private Told() {
    }

    static void put(UniverseLevels levels, String text) {
        levels.wipe();
        for (char letter : text.toCharArray()) {
            levels.write(letter);
        }
    }

    static UniverseLevels laid(String text) {
        UniverseLevels levels = new UniverseLevels();
        put(levels, text);
        if (levels.lay() < 0) {
            throw new IllegalStateException("a test's text is not laid: " + text);
        }
        return levels;
    }

    static int faultOf(String text) {
        UniverseLevels levels = new UniverseLevels();
        put(levels, text);
        return levels.fault();
    }

    static int[] counts(UniverseLevels levels) {
        int[] all = new int[10];
        for (int what = 0; what < 10; what++) {
            all[what] = levels.count(what);
        }
        return all;
    }

    static int[] kinds(UniverseLevels levels) {
        int[] all = new int[levels.count(0)];
        for (int u = 0; u < all.length; u++) {
            all[u] = levels.level(u, 0);
        }
        return all;
    }

    static int[] values(UniverseLevels levels) {
        int[] all = new int[levels.count(0)];
        for (int u = 0; u < all.length; u++) {
            all[u] = levels.level(u, 1);
        }
        return all;
    }

    /** From, to, and WEIGHT and 100 of each BOUND, one behind the other. */
    static int[] bounds(UniverseLevels levels) {
        int[] all = new int[levels.count(1) * 3];
        for (int i = 0; i < all.length; i++) {
            all[i] = levels.bound(i / 3, i % 3);
        }
        return all;
    }

    /** The LEVELS of the ROUND; of no length, if there is none. */
    static int[] round(UniverseLevels levels) {
        int[] all = new int[Math.max(0, levels.round(-1))];
        for (int i = 0; i < all.length; i++) {
            all[i] = levels.round(i);
        }
        return all;
    }

    /** How many stand against a BOUND, then the first, second and third. */
    static int[] against(UniverseLevels levels, int u, int k, int v) {
        return new int[] {levels.stands(u, k, v, -1), levels.stands(u, k, v, 0), levels.stands(u, k, v, 1),
                levels.stands(u, k, v, 2)};
    }

    /** What is seen of an object with some 100 calls: enough to tell whether a call changed anything. */
    static int[] seen(UniverseLevels levels) {
        int[][] parts = {counts(levels), kinds(levels), bounds(levels), round(levels),
                {levels.round(10), levels.brief(), levels.worth(), levels.fault()}};
        int length = 0;
        for (int[] part : parts) {
            length += part.length;
        }
        int[] all = new int[length];
        int at = 0;
        for (int[] part : parts) {
            System.arraycopy(part, 0, all, at, part.length);
            at += part.length;
        }
        return all;
    }
}
