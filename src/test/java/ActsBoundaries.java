/** Boundary cases of promises 9 to 13: BOUNDS ASKED, TAKEN BACK, KINDS told otherwise, UNDONE, the ROUND. */
final class ActsBoundaries {
    private static final int BAD = Told.BAD;
    private static final int NO = Told.NO;
    private static final int FULL = Told.FULL;
    private static final int NONE = Told.NONE;

    private ActsBoundaries() {
    }

    // "LEVELS .. such as there are", "(unlike ones)"
    static void promise09LevelsThereAreAndUnlike(Due due) {
        UniverseLevels levels = Told.laid("v0;v0;v0;c0,1,1;");
        due.isBad("from", u -> levels.ask(u, 0, 1), -1, 3, 10);
        due.isBad("to", v -> levels.ask(0, 0, v), -1, 3, 10);
        due.isBad("both", u -> levels.ask(u, 0, u), -1, 0, 1, 2, 3);
        due.are("nothing changes", Told.counts(levels), 3, 1, 0, 1, 0, 0, 0, 0, 16, 1);
        due.is("the first from the last", levels.ask(2, 0, 0), 1);
        due.is("the last from the first", levels.ask(0, -9, 2), 2);
        due.is("a single one with itself", Told.laid("v0;").ask(0, 0, 0), BAD);
    }

    // "K -9 to 9"
    static void promise09KIsMinus9To9(Due due) {
        UniverseLevels levels = Told.laid("v0;v0;");
        due.isBad("k", k -> levels.ask(0, k, 1), -11, -10, 10, 11);
        due.is("nothing is taken", levels.count(1), 0);
        due.is("-9", levels.ask(0, -9, 1), 0);
        due.is("-8", levels.ask(0, -8, 1), 1);
        due.is("8", levels.ask(0, 8, 1), 2);
        due.is("9", levels.ask(0, 9, 1), 3);
        due.are("bounds", Told.bounds(levels), 0, 1, 91, 0, 1, 92, 0, 1, 108, 0, 1, 109);
    }

    // "STRICT one 1 more", "LAX one 1 less": of the KIND that V is of "as it is ASKED"
    static void promise09WeightByTheKindOfV(Due due) {
        UniverseLevels levels = Told.laid("v0;v1;v2;v3;");
        levels.ask(1, -9, 0);
        levels.ask(0, -9, 1);
        levels.ask(0, -9, 2);
        levels.ask(0, -9, 3);
        levels.ask(2, 9, 3);
        due.are("bounds", Told.bounds(levels), 1, 0, 91, 0, 1, 91, 0, 2, 92, 0, 3, 90, 2, 3, 108);
    }

    // "REFUSED, if REACH from V to U and its WEIGHT are above 0 together; else TAKEN"
    static void promise09RefusedAbove0(Due due) {
        UniverseLevels levels = Told.laid("v0;v0;v0;c0,2,1;c1,3,2;");
        due.is("1 together", levels.ask(2, -4, 0), NO);
        due.is("0 together", levels.ask(2, -5, 0), 2);
        due.is("-1 together", levels.ask(2, -6, 0), 3);
        due.is("1 above the round of 0", levels.ask(0, 3, 1), NO);
        due.is("no way back, 9", Told.laid("v0;v0;").ask(0, 9, 1), 0);
        UniverseLevels strict = Told.laid("v2;v0;c0,0,1;");
        due.is("towards a strict one: 1", strict.ask(1, 0, 0), NO);
        due.is("towards a strict one: 0", strict.ask(1, -1, 0), 1);
        UniverseLevels lax = Told.laid("v3;v0;c0,0,1;");
        due.is("towards a lax one: 1", lax.ask(1, 2, 0), NO);
        due.is("towards a lax one: 0", lax.ask(1, 1, 0), 1);
    }

    // the greatest together: 90 and 10
    static void promise09RefusedBy100(Due due) {
        UniverseLevels levels = Told.laid(Told.STEEP);
        due.is("refused", levels.ask(9, 9, 0), NO);
        due.is("by", levels.round(10), 100);
        due.is("the least is refused too", levels.ask(9, -9, 0), NO);
        due.is("by that", levels.round(10), 82);
        due.is("deep below is taken", Told.laid(Told.SUNK).ask(9, 9, 0), 9);
    }

    // "nothing changes then, but the ROUND and how many were REFUSED by what is REFUSED"
    static void promise09RefusedChangesTheRoundAlone(Due due) {
        UniverseLevels levels = Told.laid("v0;v0;v0;c0,1,1;c1,1,2;c1,0,0;");
        levels.term(1, 2);
        due.are("ahead", Told.counts(levels), 3, 2, 1, 2, 0, 1, 0, 0, 30, 3);
        due.is("refused", levels.ask(2, 3, 1), NO);
        due.are("behind", Told.counts(levels), 3, 2, 2, 2, 0, 1, 0, 0, 30, 3);
        due.are("round", Told.round(levels), 1, 2);
        due.is("above", levels.round(10), 4);
        due.are("bounds", Told.bounds(levels), 0, 1, 101, 1, 2, 101);
        due.is("nothing can be undone", levels.undo(), NO);
    }

    // "BOUNDS 0, 1, .. (16 at most)"; "FULL"
    static void promise09FullAt16(Due due) {
        UniverseLevels levels = Told.laid("v0;v0;v0;");
        for (int b = 0; b < 16; b++) {
            due.is("bound " + b, levels.ask(0, b % 10, 1), b);
        }
        int[] ahead = Told.seen(levels);
        due.is("the 17th", levels.ask(0, 0, 1), FULL);
        due.is("between others", levels.ask(1, 0, 2), FULL);
        due.are("nothing changes", Told.seen(levels), ahead);
        due.is("no way of it", levels.reach(1, 2), NONE);
        due.is("one is taken back", levels.retract(0), 15);
        due.is("room again", levels.ask(1, 0, 2), 15);
        due.is("full again", levels.ask(1, 0, 2), FULL);
    }

    // "Of several the first": BAD, then NO, then FULL
    static void promise09BadThenNoThenFull(Due due) {
        UniverseLevels levels = Told.laid("v0;v0;" + "c0,1,1;".repeat(16));
        due.is("full", levels.ask(0, 1, 1), FULL);
        due.is("full, not above 0", levels.ask(1, -1, 0), FULL);
        due.is("refused, too", levels.ask(1, 0, 0), NO);
        due.is("it counts", levels.count(2), 1);
        due.are("round", Told.round(levels), 0, 1);
        due.is("bad, too", levels.ask(1, 10, 0), BAD);
        due.is("alike", levels.ask(1, 9, 1), BAD);
        due.is("that doesn't count", levels.count(2), 1);
    }

    // "BOUNDS .. such as there are"
    static void promise10BoundsThereAre(Due due) {
        UniverseLevels levels = Told.laid("v0;v0;c0,1,1;c0,2,1;");
        due.isBad("of two", levels::retract, -1, 2, 3, 16);
        due.is("nothing changes", levels.count(1), 2);
        due.is("nothing to undo", levels.count(6), 0);
        due.is("1", levels.retract(1), 1);
        due.is("1 again", levels.retract(1), BAD);
        due.is("0", levels.retract(0), 0);
        due.isBad("of none", levels::retract, -1, 0, 1);
        UniverseLevels all = Told.laid("v0;v0;" + "c0,1,1;".repeat(16));
        due.isBad("of 16", all::retract, -1, 16, 17);
        due.is("15", all.retract(15), 15);
    }

    // "(those behind it are one number lower)"
    static void promise10ThoseBehindAreOneLower(Due due) {
        String text = "v0;v0;c0,1,1;c0,2,1;c0,3,1;";
        UniverseLevels first = Told.laid(text);
        due.is("the first", first.retract(0), 2);
        due.are("is gone", Told.bounds(first), 0, 1, 102, 0, 1, 103);
        UniverseLevels middle = Told.laid(text);
        due.is("the middle one", middle.retract(1), 2);
        due.are("is gone", Told.bounds(middle), 0, 1, 101, 0, 1, 103);
        UniverseLevels last = Told.laid(text);
        due.is("the last", last.retract(2), 2);
        due.are("is gone", Told.bounds(last), 0, 1, 101, 0, 1, 102);
        due.is("value", last.level(1, 1), 2);
        due.is("the next comes behind all", last.ask(0, 5, 1), 2);
    }

    // of sixteen, the first
    static void promise10TheFirstOf16(Due due) {
        UniverseLevels levels = Told.laid("v0;v0;v0;c1,5,2;" + "c0,0,1;".repeat(14) + "c0,7,1;");
        due.is("how many are left", levels.retract(0), 15);
        due.is("0 is the second", levels.bound(0, 2), 100);
        due.is("14 is the last", levels.bound(14, 2), 107);
        due.is("15", levels.bound(15, 0), BAD);
        due.is("no way", levels.reach(0, 2), NONE);
    }

    // what stood against a BOUND no longer does
    static void promise10LetsInWhatWasRefused(Due due) {
        UniverseLevels levels = Told.laid("v0;v0;c0,1,1;c1,0,0;");
        due.is("refused", levels.ask(1, 0, 0), NO);
        levels.retract(0);
        due.is("taken", levels.ask(1, 0, 0), 0);
        due.are("the round stays", Told.round(levels), 0, 1);
        due.is("how many were refused stays", levels.count(2), 2);
    }

    // "LEVELS .. such as there are"
    static void promise11LevelsThereAre(Due due) {
        UniverseLevels levels = Told.laid("v0;v0;");
        due.isBad("level", u -> levels.rename(u, 1), -1, 2, 10);
        due.is("nothing to undo", levels.count(6), 0);
        due.is("1", levels.rename(1, 1), 0);
        due.is("0", levels.rename(0, 3), 0);
    }

    // KINDS are 0 to 3
    static void promise11KindsAre0To3(Due due) {
        UniverseLevels levels = Told.laid("v1;");
        due.isBad("kind", kind -> levels.rename(0, kind), -2, -1, 4, 5);
        due.is("kind stays", levels.level(0, 0), 1);
        due.is("0", levels.rename(0, 0), 1);
        due.is("3", levels.rename(0, 3), 0);
        due.is("2", levels.rename(0, 2), 3);
        due.is("1", levels.rename(0, 1), 2);
    }

    // "NO: it is"; "nothing changes then"
    static void promise11NoIfItIs(Due due) {
        UniverseLevels levels = Told.laid("v0;v1;v2;v3;");
        for (int kind = 0; kind <= 3; kind++) {
            due.is("kind " + kind, levels.rename(kind, kind), NO);
        }
        due.is("nothing to undo", levels.count(6), 0);
        due.is("back and forth: forth", levels.rename(0, 2), 0);
        due.is("back and forth: it is", levels.rename(0, 2), NO);
        due.is("back and forth: back", levels.rename(0, 0), 2);
        due.is("two acts", levels.count(6), 2);
    }

    // "Of several the first": BAD, then NO
    static void promise11BadComesAheadOfNo(Due due) {
        UniverseLevels levels = Told.laid("v0;");
        due.is("no level, its kind 0", levels.rename(1, 0), BAD);
        due.is("no kind", levels.rename(0, 4), BAD);
    }

    // "a LEVEL be of another KIND (BOUNDS stay)"
    static void promise11BoundsStay(Due due) {
        UniverseLevels levels = Told.laid("v0;v2;c0,1,1;d1,0,2;");
        due.are("bounds", Told.bounds(levels), 0, 1, 102, 1, 0, 98);
        levels.rename(1, 3);
        levels.rename(0, 2);
        due.are("bounds as they were", Told.bounds(levels), 0, 1, 102, 1, 0, 98);
        due.is("value as it was", levels.level(1, 1), 2);
        due.is("what is asked weighs otherwise", levels.ask(0, 1, 1), 2);
        due.is("lax", levels.bound(2, 2), 100);
        due.is("towards a strict one: 1 together", levels.ask(1, -2, 0), NO);
        due.is("towards a strict one: 0 together", levels.ask(1, -3, 0), 3);
    }

    // "NO": nothing was done, or all is undone
    static void promise12NoIfThereIsNothing(Due due) {
        UniverseLevels levels = Told.laid("v0;v0;c0,1,1;");
        int[] ahead = Told.seen(levels);
        due.is("at first", levels.undo(), NO);
        due.are("nothing changes", Told.seen(levels), ahead);
        levels.rename(0, 1);
        due.is("one act", levels.undo(), 0);
        due.is("no more", levels.undo(), NO);
        due.are("all as ahead", Told.seen(levels), ahead);
    }

    // "UNDONE is the latest of these, of BOUNDS TAKEN"
    static void promise12TheLatestOfEach(Due due) {
        UniverseLevels levels = Told.laid("v0;v0;v0;c0,1,1;c1,2,2;");
        levels.retract(0);
        levels.rename(2, 2);
        levels.ask(2, 3, 0);
        due.is("the bound taken", levels.undo(), 2);
        due.are("is gone", Told.bounds(levels), 1, 2, 102);
        due.is("its way is gone", levels.reach(2, 0), NONE);
        due.is("the kind told", levels.undo(), 1);
        due.are("is gone", Told.kinds(levels), 0, 0, 0);
        due.is("the bound taken back", levels.undo(), 0);
        due.are("has its number", Told.bounds(levels), 0, 1, 101, 1, 2, 102);
        due.is("its way is there", levels.reach(0, 2), 1003);
    }

    // "(the last 8 can be)"
    static void promise12TheLast8(Due due) {
        for (int acts = 1; acts <= 10; acts++) {
            UniverseLevels levels = Told.laid("v0;v0;");
            for (int i = 0; i < acts; i++) {
                levels.ask(0, i % 10, 1);
            }
            int can = Math.min(8, acts);
            due.is("how many of " + acts, levels.count(6), can);
            for (int left = can - 1; left >= 0; left--) {
                due.is("undo of " + acts, levels.undo(), left);
                due.is("bounds of " + acts, levels.count(1), acts - can + left);
            }
            due.is("no more of " + acts, levels.undo(), NO);
            due.is("what stays of " + acts, levels.count(1), acts - can);
        }
    }

    // the last 8, whatever they are, and however often
    static void promise12TheLast8Again(Due due) {
        UniverseLevels levels = Told.laid("v0;v0;");
        for (int i = 0; i < 30; i++) {
            levels.rename(0, i % 3 + 1);
        }
        due.is("after 30", levels.count(6), 8);
        levels.undo();
        levels.undo();
        due.is("the 28th", levels.level(0, 0), 1);
        levels.ask(0, 3, 1);
        levels.ask(0, 4, 1);
        levels.retract(0);
        due.is("six and three are eight", levels.count(6), 8);
        for (int left = 7; left >= 0; left--) {
            due.is("undo", levels.undo(), left);
        }
        due.is("no more", levels.undo(), NO);
        due.is("bounds", levels.count(1), 0);
        due.is("the 23rd: the 28th less five", levels.level(0, 0), 2);
    }

    // what is BAD, NO, FULL is nothing that could be UNDONE
    static void promise12WhatIsNotDoneIsNotUndone(Due due) {
        UniverseLevels levels = Told.laid("v0;v0;" + "c0,1,1;".repeat(15));
        levels.ask(0, 5, 1);
        levels.ask(0, 5, 1);
        levels.ask(1, 0, 0);
        levels.ask(1, 0, 1);
        levels.retract(16);
        levels.rename(0, 0);
        levels.rename(0, 4);
        due.is("one act", levels.count(6), 1);
        due.is("undo", levels.undo(), 0);
        due.is("that one", levels.count(1), 15);
        due.is("undo is no act", levels.undo(), NO);
    }

    // "not THE MAX, the ROUND, how many were REFUSED; UNDOING leaves these, too"
    static void promise12LeavesTheRest(Due due) {
        UniverseLevels levels = Told.laid("v0;v0;");
        levels.ask(0, 1, 1);
        levels.ask(1, 1, 0);
        levels.term(1, 3);
        levels.keep();
        due.is("undo", levels.undo(), 0);
        due.are("counts", Told.counts(levels), 2, 0, 1, 0, 0, 1, 0, 1, 6, 0);
        due.are("round", Told.round(levels), 0, 1);
        due.is("above", levels.round(10), 2);
        due.is("worth", levels.worth(), 3);
        due.is("what is kept is whole", levels.back(), 0);
        due.is("its bound", levels.count(1), 1);
    }

    // undone while full: there is room again
    static void promise12MakesRoom(Due due) {
        UniverseLevels levels = Told.laid("v0;v0;" + "c0,1,1;".repeat(15));
        levels.ask(0, 9, 1);
        due.is("full", levels.ask(0, 2, 1), FULL);
        levels.undo();
        due.is("room", levels.ask(0, 2, 1), 15);
        due.is("its weight", levels.bound(15, 2), 102);
        due.is("value", levels.level(1, 1), 2);
    }

    // "BAD (below -1, above 10)"
    static void promise13IIsMinus1To10(Due due) {
        UniverseLevels none = Told.laid("v0;v0;");
        due.isBad("none was refused", none::round, -3, -2, 11, 12);
        UniverseLevels levels = Told.laid("v0;v0;c0,1,1;c1,0,0;");
        due.isBad("one was", levels::round, -3, -2, 11, 12);
        due.is("-1", levels.round(-1), 2);
        due.is("10", levels.round(10), 1);
    }

    // "NONE: none was REFUSED"
    static void promise13NoneWasRefused(Due due) {
        UniverseLevels levels = Told.laid("v0;v0;c0,1,1;");
        for (int i = -1; i <= 10; i++) {
            due.is("at " + i, levels.round(i), NONE);
        }
        levels.ask(1, -1, 0);
        levels.ask(0, 10, 1);
        due.is("taken and bad ones are not", levels.round(-1), NONE);
    }

    // "NONE: .. not so many"
    static void promise13NotSoMany(Due due) {
        UniverseLevels two = Told.laid("v0;v0;c0,1,1;c1,0,0;");
        due.is("the first of two", two.round(0), 0);
        due.is("the last of two", two.round(1), 1);
        for (int i = 2; i <= 9; i++) {
            due.is("of two " + i, two.round(i), NONE);
        }
        UniverseLevels nine = Told.laid(Told.STEEP);
        nine.ask(8, 0, 0);
        due.is("how many are nine", nine.round(-1), 9);
        due.is("8 of nine", nine.round(8), 8);
        due.is("9 of nine", nine.round(9), NONE);
        UniverseLevels ten = Told.laid(Told.STEEP);
        ten.ask(9, 0, 0);
        due.are("ten", Told.round(ten), 0, 1, 2, 3, 4, 5, 6, 7, 8, 9);
        ten.ask(1, 0, 0);
        due.are("two behind ten", Told.round(ten), 0, 1);
        due.is("no third behind ten", ten.round(2), NONE);
    }

    // "(its first is V, its last U)"
    static void promise13FromVToU(Due due) {
        UniverseLevels levels = Told.laid("v0;v0;v0;c2,1,0;c0,1,1;");
        levels.ask(1, 0, 2);
        due.are("from 2 to 1", Told.round(levels), 2, 0, 1);
    }

    // "by how much it is above 0 with the BOUND": the WEIGHT counts, not K
    static void promise13AboveWithTheBound(Due due) {
        UniverseLevels strict = Told.laid("v2;v0;c0,2,1;");
        strict.ask(1, -2, 0);
        due.is("1", strict.round(10), 1);
        strict.ask(1, 9, 0);
        due.is("12", strict.round(10), 12);
        UniverseLevels lax = Told.laid("v3;v0;c0,2,1;");
        due.is("not above", lax.ask(1, -1, 0), 1);
        lax.ask(1, 0, 0);
        due.is("1 over a lax one", lax.round(10), 1);
    }

    // "of several of the greatest LENGTH one of fewest BOUNDS"
    static void promise13GreatestLengthThenFewest(Due due) {
        UniverseLevels longer = Told.laid("v0;v0;v0;c0,1,1;c1,1,2;c0,1,2;c2,0,0;");
        due.are("2 by two bounds ahead of 1 by one", Told.round(longer), 0, 1, 2);
        UniverseLevels fewer = Told.laid("v0;v0;v0;c0,1,1;c1,1,2;c0,2,2;c2,0,0;");
        due.are("2 by one ahead of 2 by two", Told.round(fewer), 0, 2);
        UniverseLevels three = Told.laid("v0;v0;v0;v0;v0;c0,0,1;c1,0,2;c2,0,4;c0,0,3;c3,0,4;c4,1,0;");
        due.are("two ahead of three, though its second is higher", Told.round(three), 0, 3, 4);
    }

    // "of several the first by its LEVELS (the lowest second one, then third, ..)"
    static void promise13TheFirstByItsLevels(Due due) {
        UniverseLevels second = Told.laid("v0;v0;v0;v0;c0,0,2;c2,0,3;c0,0,1;c1,0,3;c3,1,0;");
        due.are("second", Told.round(second), 0, 1, 3);
        UniverseLevels third = Told.laid("v0;v0;v0;v0;v0;c0,0,1;c1,0,3;c1,0,2;c3,0,4;c2,0,4;c4,1,0;");
        due.are("third", Told.round(third), 0, 1, 2, 4);
        UniverseLevels both = Told.laid("v0;v0;v0;v0;v0;v0;c0,0,1;c1,0,4;c4,0,5;c0,0,2;c2,0,3;c3,0,5;c5,1,0;");
        due.are("the lower second ahead of the lower third", Told.round(both), 0, 1, 4, 5);
        UniverseLevels fourth = Told.laid("v0;".repeat(6) + "c0,0,1;c1,0,2;c2,0,4;c2,0,3;c4,0,5;c3,0,5;c5,1,0;");
        due.are("fourth", Told.round(fourth), 0, 1, 2, 3, 5);
    }

    // a round of 0 beside the WAY makes it no longer
    static void promise13NoLevelTwice(Due due) {
        UniverseLevels levels = Told.laid("v0;v0;v0;v0;c3,0,1;c1,0,0;c0,0,1;c1,0,2;c2,1,3;");
        due.are("round", Told.round(levels), 3, 1, 2);
        UniverseLevels ring = Told.laid(Told.RING);
        ring.ask(5, 1, 6);
        due.are("nearly all around", Told.round(ring), 6, 7, 8, 9, 0, 1, 2, 3, 4, 5);
        ring.ask(6, 1, 5);
        due.are("at once", Told.round(ring), 5, 6);
    }

    // "The ROUND that shows why the one REFUSED last is so"
    static void promise13OfTheOneRefusedLast(Due due) {
        UniverseLevels levels = Told.laid("v0;v0;v0;c0,1,1;c1,1,2;");
        levels.ask(2, 9, 0);
        levels.ask(1, 0, 0);
        due.are("the last", Told.round(levels), 0, 1);
        due.is("its above", levels.round(10), 1);
        levels.retract(0);
        levels.retract(0);
        levels.rename(0, 2);
        due.are("it stays", Told.round(levels), 0, 1);
        levels.stands(2, 0, 1, -1);
        due.is("by none that would be asked", levels.round(10), 1);
    }
}
