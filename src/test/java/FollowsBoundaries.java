/** Boundary cases of promises 14 to 17: what FOLLOWS, RAISED, TOP, STANDS. */
final class FollowsBoundaries {
    private static final int BAD = Told.BAD;
    private static final int NONE = Told.NONE;

    private FollowsBoundaries() {
    }

    // "LEVELS .. such as there are"; alike ones are not ruled out
    static void promise14LevelsThereAre(Due due) {
        UniverseLevels levels = Told.laid("v0;v0;c0,1,1;");
        due.isBad("from", u -> levels.follows(u, 0, 1), -1, 2, 10);
        due.isBad("to", v -> levels.follows(0, 0, v), -1, 2, 10);
        due.isBad("both", u -> levels.follows(u, 0, u), -1, 2, 10);
        due.is("0", levels.follows(0, 0, 0), 1);
        due.is("1", levels.follows(1, 0, 1), 1);
    }

    // "K -9 to 9"
    static void promise14KIsMinus9To9(Due due) {
        UniverseLevels levels = Told.laid(Told.STEEP);
        due.isBad("k", k -> levels.follows(0, k, 9), -11, -10, 10, 11);
        for (int k = -9; k <= 9; k++) {
            due.is("90 is " + k + " or more", levels.follows(0, k, 9), 1);
        }
    }

    // "if REACH from U to V is K or more"
    static void promise14KOrMore(Due due) {
        UniverseLevels levels = Told.laid("v0;v0;v0;c0,1,1;c1,1,2;d2,0,9;");
        due.is("2 is 1 or more", levels.follows(0, 1, 2), 1);
        due.is("2 is 2 or more", levels.follows(0, 2, 2), 1);
        due.is("2 is not 3 or more", levels.follows(0, 3, 2), 0);
        due.is("-9 is -9 or more", levels.follows(2, -9, 0), 1);
        due.is("-9 is not -8 or more", levels.follows(2, -8, 0), 0);
        due.is("-10 is not -9 or more", Told.laid("v0;v3;d0,1,9;").follows(0, -9, 1), 0);
        due.is("9 is 9 or more", Told.laid("v0;v0;c0,9,1;").follows(0, 9, 1), 1);
        due.is("8 is not 9 or more", Told.laid("v0;v3;c0,9,1;").follows(0, 9, 1), 0);
    }

    // from a LEVEL to itself REACH is 0
    static void promise14OfItself(Due due) {
        UniverseLevels levels = Told.laid("v0;v0;c0,1,1;d1,0,1;");
        due.is("-1", levels.follows(1, -1, 1), 1);
        due.is("0", levels.follows(1, 0, 1), 1);
        due.is("1", levels.follows(1, 1, 1), 0);
    }

    // there is no WAY: nothing FOLLOWS
    static void promise14NothingWithoutAWay(Due due) {
        UniverseLevels levels = Told.laid("v0;v0;v0;c0,9,1;");
        due.is("back", levels.follows(1, -9, 0), 0);
        due.is("aside", levels.follows(0, -9, 2), 0);
    }

    // K counts as it is, whatever KIND the LEVEL is of
    static void promise14KIsNotWeighed(Due due) {
        UniverseLevels levels = Told.laid("v0;v2;v3;c0,0,1;c0,0,2;");
        due.is("towards a strict one, 1", levels.follows(0, 1, 1), 1);
        due.is("towards a strict one, 2", levels.follows(0, 2, 1), 0);
        due.is("towards a lax one, -1", levels.follows(0, -1, 2), 1);
        due.is("towards a lax one, 0", levels.follows(0, 0, 2), 0);
    }

    // "LEVELS .. such as there are"; alike ones are not ruled out
    static void promise15LevelsThereAre(Due due) {
        UniverseLevels levels = Told.laid("v0;v0;c0,1,1;");
        due.isBad("raised", u -> levels.raised(u, 0, 1), -1, 2, 10);
        due.isBad("of", v -> levels.raised(0, 0, v), -1, 2, 10);
        due.isBad("both", u -> levels.raised(u, 0, u), -1, 2, 10);
        due.is("0", levels.raised(0, 4, 0), 4);
        due.is("1", levels.raised(1, 4, 1), 4);
    }

    // "LEVEL u being x (0 to 99) at least"
    static void promise15XIs0To99(Due due) {
        UniverseLevels levels = Told.laid("v0;v0;c0,1,1;");
        due.isBad("x", x -> levels.raised(0, x, 1), -2, -1, 100, 101);
        due.is("0", levels.raised(0, 0, 1), 1);
        due.is("1", levels.raised(0, 1, 1), 2);
        due.is("98", levels.raised(0, 98, 1), 99);
        due.is("99", levels.raised(0, 99, 1), 100);
        due.is("nothing stays raised", levels.level(1, 1), 1);
    }

    // the greatest and the least that come of it
    static void promise15UpTo189AndNotBelow0(Due due) {
        UniverseLevels steep = Told.laid(Told.STEEP);
        due.is("99 and 90", steep.raised(0, 99, 9), 189);
        due.is("0 and 90", steep.raised(0, 0, 9), 90);
        UniverseLevels sunk = Told.laid(Told.SUNK);
        due.is("89 less 90", sunk.raised(0, 89, 9), 0);
        due.is("90 less 90", sunk.raised(0, 90, 9), 0);
        due.is("91 less 90", sunk.raised(0, 91, 9), 1);
        due.is("99 less 90", sunk.raised(0, 99, 9), 9);
    }

    // RAISED is VALUE: "the least .. with which all BOUNDS are so"
    static void promise15AtLeastItsValue(Due due) {
        UniverseLevels levels = Told.laid("v0;v0;v0;c0,5,1;c2,3,1;");
        due.is("1 below", levels.raised(2, 1, 1), 5);
        due.is("as much", levels.raised(2, 2, 1), 5);
        due.is("1 above", levels.raised(2, 3, 1), 6);
        due.is("itself below", levels.raised(1, 4, 1), 5);
        due.is("itself as it is", levels.raised(1, 5, 1), 5);
        due.is("itself above", levels.raised(1, 6, 1), 6);
    }

    // no WAY leads from u: VALUE as it is
    static void promise15WithoutAWay(Due due) {
        UniverseLevels levels = Told.laid("v0;v0;v0;c0,5,1;");
        due.is("back", levels.raised(1, 99, 0), 0);
        due.is("aside", levels.raised(2, 99, 1), 5);
    }

    // in a round all rise
    static void promise15InARound(Due due) {
        UniverseLevels ring = Told.laid(Told.RING);
        due.is("all around", ring.raised(3, 99, 2), 99);
        due.is("the next", ring.raised(3, 1, 4), 1);
    }

    // "LEVELS .. such as there are"; alike ones are not ruled out
    static void promise16LevelsThereAre(Due due) {
        UniverseLevels levels = Told.laid("v0;v0;c0,1,1;");
        due.isBad("at most", u -> levels.top(u, 9, 0), -1, 2, 10);
        due.isBad("of", v -> levels.top(1, 9, v), -1, 2, 10);
        due.isBad("both", u -> levels.top(u, 9, u), -1, 2, 10);
        due.is("0", levels.top(0, 4, 0), 1004);
        due.is("1", levels.top(1, 4, 1), 1004);
    }

    // x is 0 to 99, as for RAISED
    static void promise16XIs0To99(Due due) {
        UniverseLevels levels = Told.laid("v0;v0;c0,0,1;");
        due.isBad("x", x -> levels.top(1, x, 0), -2, -1, 100, 101);
        due.isBad("x without a way", x -> levels.top(0, x, 1), -2, -1, 100, 101);
        due.is("0", levels.top(1, 0, 0), 1000);
        due.is("1", levels.top(1, 1, 0), 1001);
        due.is("98", levels.top(1, 98, 0), 1098);
        due.is("99", levels.top(1, 99, 0), 1099);
    }

    // "none (.. u can't be so low)"
    static void promise16NoneIfUCantBeSoLow(Due due) {
        UniverseLevels steep = Told.laid(Told.STEEP);
        due.is("1 below its value", steep.top(9, 89, 0), NONE);
        due.is("its value", steep.top(9, 90, 0), 1000);
        due.is("1 above its value", steep.top(9, 91, 0), 1001);
        due.is("itself 1 below", steep.top(9, 89, 9), NONE);
        due.is("itself", steep.top(9, 90, 9), 1090);
        UniverseLevels other = Told.laid("v0;v0;v0;c0,5,1;d2,1,0;");
        due.is("too low for another one", other.top(1, 4, 2), NONE);
        due.is("just not", other.top(1, 5, 2), 1005);
    }

    // "none (there is no WAY from it to u"
    static void promise16NoneWithoutAWay(Due due) {
        UniverseLevels levels = Told.laid("v0;v0;v0;c0,5,1;");
        due.is("back", levels.top(0, 99, 1), NONE);
        due.is("aside", levels.top(0, 99, 2), NONE);
        due.is("a way", levels.top(1, 99, 0), 1094);
    }

    // the greatest and the least that come of it
    static void promise16From1000To1189(Due due) {
        UniverseLevels sunk = Told.laid(Told.SUNK);
        due.is("99 and 90", sunk.top(9, 99, 0), 1189);
        due.is("0 and 90", sunk.top(9, 0, 0), 1090);
        due.is("one level, 0", Told.laid("v0;").top(0, 0, 0), 1000);
        due.is("one level, 99", Told.laid("v0;").top(0, 99, 0), 1099);
        due.is("in a round of 0", Told.laid(Told.RING).top(3, 0, 7), 1000);
    }

    // "the greatest it can be": over the greatest LENGTH
    static void promise16ByTheGreatestLength(Due due) {
        UniverseLevels levels = Told.laid("v0;v0;v0;d0,1,9;c0,1,2;d2,1,3;");
        due.is("2 over another, 9 at once", levels.top(1, 5, 0), 1007);
    }

    // "BAD (alike .. too)"
    static void promise17LevelsThereAreAndUnlike(Due due) {
        UniverseLevels levels = Told.laid("v0;v0;v0;c0,1,1;");
        due.isBad("from", u -> levels.stands(u, 0, 0, -1), -1, 0, 3, 10);
        due.isBad("to", v -> levels.stands(1, 0, v, -1), -1, 1, 3, 10);
        due.isBad("both", u -> levels.stands(u, 0, u, -1), -1, 0, 1, 2, 3);
        due.is("unlike", levels.stands(1, 0, 0, -1), 1);
        due.is("the last", levels.stands(2, 0, 0, -1), 0);
        due.is("a single one", Told.laid("v0;").stands(0, 0, 0, -1), BAD);
    }

    // "K -9 to 9"
    static void promise17KIsMinus9To9(Due due) {
        UniverseLevels levels = Told.laid("v0;v0;c0,9,1;");
        due.isBad("k", k -> levels.stands(1, k, 0, -1), -11, -10, 10, 11);
        due.is("-9", levels.stands(1, -9, 0, -1), 0);
        due.is("-8", levels.stands(1, -8, 0, -1), 1);
        due.is("9", levels.stands(1, 9, 0, -1), 1);
    }

    // "BAD (.. i below -1, above 2, too)"
    static void promise17IIsMinus1To2(Due due) {
        UniverseLevels levels = Told.laid("v0;v0;c0,1,1;c0,2,1;c0,3,1;");
        due.isBad("three stand", i -> levels.stands(1, 0, 0, i), -3, -2, 3, 4);
        due.isBad("none stands", i -> levels.stands(0, 0, 1, i), -3, -2, 3, 4);
        due.are("-1 to 2", Told.against(levels, 1, 0, 0), 3, 0, 1, 2);
    }

    // "NONE: also not so many"
    static void promise17NotSoMany(Due due) {
        UniverseLevels levels = Told.laid("v0;v0;c0,3,1;c0,2,1;c0,1,1;");
        due.are("0", Told.against(levels, 1, -3, 0), 0, NONE, NONE, NONE);
        due.are("1", Told.against(levels, 1, -2, 0), 1, 0, NONE, NONE);
        due.are("2", Told.against(levels, 1, -1, 0), 2, 0, 1, NONE);
        due.are("3", Told.against(levels, 1, 0, 0), 3, 0, 1, 2);
    }

    // "the fewest BOUNDS (0 to 3)"; "none"
    static void promise17MoreThan3IsNone(Due due) {
        UniverseLevels levels = Told.laid("v0;v0;" + "c0,0,1;".repeat(4));
        due.are("four would", Told.against(levels, 1, 1, 0), NONE, NONE, NONE, NONE);
        due.are("none is needed", Told.against(levels, 1, 0, 0), 0, NONE, NONE, NONE);
        levels.retract(3);
        due.are("three do", Told.against(levels, 1, 1, 0), 3, 0, 1, 2);
        UniverseLevels all = Told.laid("v0;v0;" + "c0,0,1;".repeat(16));
        due.are("sixteen would", Told.against(all, 1, 9, 0), NONE, NONE, NONE, NONE);
    }

    // REFUSED or not: 1 and 0 together
    static void promise17NoneIsNeededAt0(Due due) {
        UniverseLevels strict = Told.laid("v2;v0;c0,2,1;");
        due.is("towards a strict one, 1", strict.stands(1, -2, 0, -1), 1);
        due.is("towards a strict one, 0", strict.stands(1, -3, 0, -1), 0);
        UniverseLevels lax = Told.laid("v3;v0;c0,2,1;");
        due.is("towards a lax one, 1", lax.stands(1, 0, 0, -1), 1);
        due.is("towards a lax one, 0", lax.stands(1, -1, 0, -1), 0);
        due.is("without a way", lax.stands(0, 9, 1, -1), 0);
    }

    // only a WAY that is too long must go
    static void promise17ShorterWaysMayStay(Due due) {
        UniverseLevels levels = Told.laid("v0;v0;v0;d0,1,9;c0,1,2;c2,1,1;c0,1,1;");
        due.are("those of 2 and 1", Told.against(levels, 1, 0, 0), 2, 1, 3, NONE);
        due.are("that of 2", Told.against(levels, 1, -1, 0), 1, 1, NONE, NONE);
        due.are("that of -9 stays even at 9", Told.against(levels, 1, 9, 0), 2, 1, 3, NONE);
    }

    // the fewest come ahead of the lowest
    static void promise17TheFewestAheadOfTheLowest(Due due) {
        UniverseLevels levels = Told.laid("v0;v0;v0;c0,0,1;c0,0,1;c0,0,1;c1,0,2;");
        due.are("the last alone", Told.against(levels, 2, 1, 0), 1, 3, NONE, NONE);
        UniverseLevels two = Told.laid("v0;v0;v0;c0,0,1;c0,0,1;c0,0,1;c1,0,2;c1,0,2;");
        due.are("the last two", Told.against(two, 2, 1, 0), 2, 3, 4, NONE);
    }

    // "of several the first (by the lowest number, then the second lowest, ..)"
    static void promise17TheFirstOfSeveral(Due due) {
        UniverseLevels one = Told.laid("v0;v0;v0;c1,0,2;c0,0,1;");
        due.are("the lowest", Told.against(one, 2, 1, 0), 1, 0, NONE, NONE);
        UniverseLevels two = Told.laid("v0;v0;v0;v0;c1,0,2;c0,0,1;c0,0,1;c0,0,3;c0,0,3;c1,0,2;");
        due.are("0 and 5 ahead of 1 and 2", Told.against(two, 2, 1, 0), 2, 0, 5, NONE);
        UniverseLevels second = Told.laid("v0;v0;v0;v0;c0,0,3;c0,0,1;c1,0,3;c0,0,2;c2,0,3;");
        due.are("0, 1, 3 ahead of 0, 1, 4", Told.against(second, 3, 1, 0), 3, 0, 1, 3);
        UniverseLevels near = Told.laid("v0;v0;v0;c1,0,2;c0,0,1;c0,0,1;c1,0,2;c1,0,2;");
        due.are("1 and 2 of 5", Told.against(near, 2, 1, 0), 2, 1, 2, NONE);
        UniverseLevels three = Told.laid("v0;v0;v0;c1,0,2;c0,0,1;c0,0,1;c0,0,1;" + "c1,0,2;".repeat(3));
        due.are("1, 2 and 3 of 7", Told.against(three, 2, 1, 0), 3, 1, 2, 3);
        UniverseLevels apart = Told.laid("v0;v0;v0;c0,0,2;c1,0,2;c0,0,1;c0,0,1;c1,0,2;c1,0,2;");
        due.are("0, 2 and 3 of 6", Told.against(apart, 2, 1, 0), 3, 0, 2, 3);
        UniverseLevels last = Told.laid("v0;v0;v0;" + "c0,0,1;".repeat(13) + "c1,0,2;".repeat(3));
        due.are("the last three of 16", Told.against(last, 2, 1, 0), 3, 13, 14, 15);
    }

    // "TAKEN BACK, let it not be REFUSED": whether there is room for it is nothing to it
    static void promise17AFullRowIsNothingToIt(Due due) {
        UniverseLevels levels = Told.laid("v0;v0;v0;" + "c0,0,1;".repeat(16));
        due.is("not refused", levels.stands(1, 0, 2, -1), 0);
        due.is("but full", levels.ask(1, 0, 2), Told.FULL);
    }

    // "a BOUND that would be ASKED": nothing is
    static void promise17ChangesNothing(Due due) {
        UniverseLevels levels = Told.laid("v0;v0;c0,1,1;c0,2,1;c1,9,0;");
        levels.rename(0, 2);
        int[] ahead = Told.seen(levels);
        due.are("stands", Told.against(levels, 1, 0, 0), 2, 0, 1, NONE);
        due.are("seen", Told.seen(levels), ahead);
    }

    // what it tells is enough
    static void promise17TakenBackItIsTaken(Due due) {
        UniverseLevels levels = Told.laid("v0;v0;v0;v0;c0,1,1;c1,1,3;c0,1,2;c2,1,3;c0,1,3;");
        due.are("stands", Told.against(levels, 3, 0, 0), 3, 0, 2, 4);
        levels.retract(4);
        levels.retract(2);
        due.is("two are not enough", levels.ask(3, 0, 0), Told.NO);
        levels.retract(0);
        due.is("three are", levels.ask(3, 0, 0), 2);
    }
}
