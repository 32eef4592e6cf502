/** Boundary cases of promises 23 and 24: what FLOATING LEVELS stand for. */
final class FloatingBoundaries {
    private static final int BAD = Told.BAD;
    private static final int NO = Told.NO;

    private FloatingBoundaries() {
    }

    // "LEVELS .. such as there are"
    static void promise23LevelsThereAre(Due due) {
        UniverseLevels levels = Told.laid("v1;v1;");
        due.isBad("level", levels::roots, -1, 2, 10);
        due.is("0", levels.roots(0), 0);
        due.is("1", levels.roots(1), 0);
        UniverseLevels ten = Told.laid("v1;".repeat(10));
        due.isBad("of ten", ten::roots, -1, 10);
        due.is("9", ten.roots(9), 0);
    }

    // "NO: it is not FLOATING"; "(LAX ones are, too; FIXED ones, STRICT ones are not)"
    static void promise23NoIfItIsNotFloating(Due due) {
        UniverseLevels levels = Told.laid("v0;v1;v2;v3;");
        due.is("fixed", levels.roots(0), NO);
        due.is("floating", levels.roots(1), 0);
        due.is("strict", levels.roots(2), NO);
        due.is("lax", levels.roots(3), 0);
        levels.rename(1, 2);
        due.is("floating no more", levels.roots(1), NO);
        levels.rename(0, 3);
        due.is("floating now", levels.roots(0), 0);
    }

    // "the others that are not FLOATING from which a WAY leads there"
    static void promise23FromWhichAWayLeads(Due due) {
        due.is("no way", Told.laid("v0;v1;").roots(1), 0);
        due.is("only a way to it", Told.laid("v0;v1;c1,0,0;").roots(1), 0);
        due.is("a way from it", Told.laid("v0;v1;c0,0,1;").roots(1), 1);
        due.is("a way far below 0", Told.laid("v0;v3;d0,1,9;").roots(1), 1);
        due.is("a floating one is none", Told.laid("v1;v1;c0,0,1;").roots(1), 0);
        due.is("a lax one is none", Told.laid("v3;v1;c0,0,1;").roots(1), 0);
        due.is("a strict one is", Told.laid("v2;v1;c0,0,1;").roots(1), 1);
        due.is("over a floating one", Told.laid("v0;v1;v3;c0,0,1;c1,0,2;").roots(2), 1);
        due.is("of the one between", Told.laid("v0;v1;v3;c0,0,1;c1,0,2;").roots(1), 1);
    }

    // "the others": itself is none, even in a round
    static void promise23NotItself(Due due) {
        UniverseLevels levels = Told.laid("v1;v1;v0;c0,0,1;c1,0,0;");
        due.is("in a round of floating ones", levels.roots(0), 0);
        levels.ask(2, 0, 1);
        due.is("a root of both", levels.roots(0), 4);
        due.is("of the other", levels.roots(1), 4);
    }

    // bits by the LEVELS' numbers: the lowest, the highest, as many as there can be
    static void promise23BitsByNumber(Due due) {
        due.is("the lowest nine", Told.laid("v0;".repeat(9) + "v1;c0,0,9;c1,0,9;c2,0,9;c3,0,9;c4,0,9;c5,0,9;c6,0,9;"
                + "c7,0,9;c8,0,9;").roots(9), 511);
        due.is("the highest nine", Told.laid("v1;" + "v2;".repeat(9) + "c1,0,0;c2,0,0;c3,0,0;c4,0,0;c5,0,0;c6,0,0;"
                + "c7,0,0;c8,0,0;c9,0,0;").roots(0), 1022);
        due.is("the highest alone", Told.laid("v1;" + "v2;".repeat(9) + "c9,0,0;").roots(0), 512);
    }

    // "SHORT ones of these": COVERED at as much, not at 1 more
    static void promise23ShortOnes(Due due) {
        String way = "v0;v0;v1;c0,1,1;c1,1,2;";
        due.is("over the other", Told.laid(way).roots(2), 2);
        due.is("1 less than over it", Told.laid(way + "c0,1,2;").roots(2), 2);
        due.is("as much as over it", Told.laid(way + "c0,2,2;").roots(2), 2);
        due.is("1 more than over it", Told.laid(way + "c0,3,2;").roots(2), 3);
        UniverseLevels steep = Told.laid(Told.STEEP);
        steep.rename(9, 1);
        due.is("all but the nearest of a steep line", steep.roots(9), 256);
        UniverseLevels sunk = Told.laid(Told.SUNK);
        sunk.rename(0, 0);
        sunk.rename(1, 2);
        due.is("80 and 90 below", sunk.roots(9), 2);
    }

    // "of TERMS by numbers": of two that cover each other the lower number
    static void promise23OfTwoTheLowerNumber(Due due) {
        due.is("0 told first", Told.laid("v0;v0;v1;c0,1,1;d1,0,1;c0,1,2;").roots(2), 1);
        due.is("1 told first", Told.laid("v0;v0;v1;d1,0,1;c0,1,1;c1,0,2;").roots(2), 1);
        due.is("1 short of it", Told.laid("v0;v0;v1;c0,1,1;d1,0,2;c1,0,2;").roots(2), 2);
        UniverseLevels ring = Told.laid(Told.RING);
        ring.rename(4, 1);
        due.is("of a round", ring.roots(4), 1);
        ring.rename(0, 3);
        due.is("of a round, the next", ring.roots(4), 2);
        due.is("of the other one", ring.roots(0), 2);
    }

    // THE MAX is nothing to it
    static void promise23LeavesTheMax(Due due) {
        UniverseLevels levels = Told.laid("v0;v0;v1;c0,1,2;c1,1,2;");
        levels.term(2, 4);
        int[] ahead = Told.seen(levels);
        due.is("roots", levels.roots(2), 3);
        due.are("seen", Told.seen(levels), ahead);
    }

    // "LEVELS .. such as there are"
    static void promise24LevelsThereAre(Due due) {
        UniverseLevels levels = Told.laid("v1;v3;");
        for (int what = 0; what <= 1; what++) {
            int which = what;
            due.isBad("level, what " + what, u -> levels.loose(u, which), -1, 2, 10);
        }
        due.is("0", levels.loose(0, 0), 1);
        due.is("1", levels.loose(1, 1), 0);
    }

    // what is 0 or 1
    static void promise24WhatIs0Or1(Due due) {
        UniverseLevels levels = Told.laid("v1;v0;c1,1,0;d0,1,1;");
        due.isBad("what", what -> levels.loose(0, what), -2, -1, 2, 3);
        due.is("0", levels.loose(0, 0), 0);
        due.is("1", levels.loose(0, 1), 1);
    }

    // "NO: it is not FLOATING"
    static void promise24NoIfItIsNotFloating(Due due) {
        UniverseLevels levels = Told.laid("v0;v1;v2;v3;");
        for (int what = 0; what <= 1; what++) {
            due.is("fixed, " + what, levels.loose(0, what), NO);
            due.is("floating, " + what, levels.loose(1, what), 1 - what);
            due.is("strict, " + what, levels.loose(2, what), NO);
            due.is("lax, " + what, levels.loose(3, what), 1 - what);
        }
    }

    // "Of several the first": BAD, then NO
    static void promise24BadComesAheadOfNo(Due due) {
        UniverseLevels levels = Told.laid("v0;v2;");
        due.isBad("fixed", what -> levels.loose(0, what), -1, 2);
        due.isBad("strict", what -> levels.loose(1, what), -1, 2);
        due.is("no level", levels.loose(2, 0), BAD);
    }

    // "LOOSE: 1, if there is no ROOT, nor a WAY from it to one that is not FLOATING"
    static void promise24Loose(Due due) {
        due.is("alone", Told.laid("v1;").loose(0, 0), 1);
        due.is("beside a fixed one", Told.laid("v1;v0;").loose(0, 0), 1);
        due.is("a way from a fixed one", Told.laid("v1;v0;d1,0,9;").loose(0, 0), 0);
        due.is("a way to a fixed one", Told.laid("v1;v0;d0,1,9;").loose(0, 0), 0);
        due.is("a way from a strict one", Told.laid("v1;v2;c1,0,0;").loose(0, 0), 0);
        due.is("a way to a strict one", Told.laid("v1;v2;c0,0,1;").loose(0, 0), 0);
        due.is("ways from and to floating ones", Told.laid("v1;v1;v3;c1,0,0;c0,0,2;").loose(0, 0), 1);
        due.is("to a fixed one over a lax one", Told.laid("v1;v3;v0;c0,0,1;c1,0,2;").loose(0, 0), 0);
        due.is("from a fixed one over a lax one", Told.laid("v1;v3;v0;c1,0,0;c2,0,1;").loose(0, 0), 0);
        due.is("the first is fixed", Told.laid("v0;v1;c0,0,1;").loose(1, 0), 0);
        due.is("ten floating ones", Told.laid("v1;".repeat(10) + "c0,0,9;").loose(0, 0), 1);
        due.is("of ten the last is fixed", Told.laid("v1;".repeat(9) + "v0;c0,0,9;").loose(0, 0), 0);
    }

    // "PINNED: 1, if a ROOT is the SAME as it but for a number (REACH there and back is 0 in all)"
    static void promise24Pinned(Due due) {
        due.is("0 and 0", Told.laid("v0;v1;c0,0,1;c1,0,0;").loose(1, 1), 1);
        due.is("9 and -9", Told.laid("v0;v1;c0,9,1;d1,0,9;").loose(1, 1), 1);
        due.is("-9 and 9", Told.laid("v0;v1;d0,1,9;c1,9,0;").loose(1, 1), 1);
        due.is("9 and -8 is refused", Told.laid("v0;v1;c0,9,1;d1,0,8;").loose(1, 1), 0);
        due.is("8 and -9", Told.laid("v0;v1;c0,8,1;d1,0,9;").loose(1, 1), 0);
        due.is("-1 in all", Told.laid("v0;v1;c0,0,1;d1,0,1;").loose(1, 1), 0);
        due.is("there alone", Told.laid("v0;v1;c0,0,1;").loose(1, 1), 0);
        due.is("back alone", Told.laid("v0;v1;c1,0,0;").loose(1, 1), 0);
        due.is("no root", Told.laid("v1;").loose(0, 1), 0);
        due.is("a lax one", Told.laid("v0;v3;c0,1,1;c1,0,0;").loose(1, 1), 1);
        due.is("ten, none of them a root", Told.laid("v1;v3;".repeat(5) + "c0,0,9;").loose(9, 1), 0);
        due.is("by the second root", Told.laid("v0;v0;v1;c0,0,2;c1,0,2;d2,1,0;").loose(2, 1), 1);
        due.is("over another", Told.laid("v0;v0;v1;c0,1,1;c1,1,2;d2,0,2;").loose(2, 1), 1);
    }

    // only a ROOT pins: an other one that is not FLOATING
    static void promise24PinnedByARootAlone(Due due) {
        UniverseLevels levels = Told.laid("v1;v1;c0,1,1;d1,0,1;");
        due.is("by a floating one", levels.loose(1, 1), 0);
        levels.rename(0, 3);
        due.is("by a lax one", levels.loose(1, 1), 0);
        levels.rename(0, 0);
        due.is("by a fixed one", levels.loose(1, 1), 1);
        levels.rename(0, 2);
        due.is("by a strict one", levels.loose(1, 1), 1);
    }
}
