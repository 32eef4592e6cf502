/** Boundary cases of promises 25 to 27: what is KEPT, and what is counted. */
final class KeptBoundaries {
    private static final int NO = Told.NO;
    private static final int FULL = Told.FULL;

    private KeptBoundaries() {
    }

    // "KEPT .. : 2 at most"; "FULL"
    static void promise25FullAt2(Due due) {
        UniverseLevels levels = Told.laid("v0;v0;");
        due.is("the first", levels.keep(), 1);
        due.is("the second", levels.keep(), 2);
        due.is("the third", levels.keep(), FULL);
        due.is("kept", levels.count(7), 2);
        due.is("one goes", levels.back(), 1);
        due.is("room again", levels.keep(), 2);
        due.is("full again", levels.keep(), FULL);
    }

    // FULL: "nothing changes then"
    static void promise25WhatIsFullKeepsNothing(Due due) {
        UniverseLevels levels = Told.laid("v0;v0;");
        levels.keep();
        levels.rename(0, 1);
        levels.keep();
        levels.rename(0, 2);
        int[] ahead = Told.seen(levels);
        due.is("full", levels.keep(), FULL);
        due.are("seen", Told.seen(levels), ahead);
        levels.back();
        due.is("the second is as it was", levels.level(0, 0), 1);
        levels.back();
        due.is("the first is as it was", levels.level(0, 0), 0);
    }

    // to keep is nothing that could be UNDONE, and leaves what can be
    static void promise25IsNoAct(Due due) {
        UniverseLevels levels = Told.laid("v0;v0;");
        levels.rename(0, 1);
        levels.keep();
        due.is("one act", levels.count(6), 1);
        due.is("undo", levels.undo(), 0);
        due.is("it is kept", levels.count(7), 1);
        levels.back();
        due.is("as it was kept", levels.level(0, 0), 1);
    }

    // "NO": nothing is kept
    static void promise26NoIfNothingIsKept(Due due) {
        UniverseLevels levels = Told.laid("v0;v0;c0,1,1;");
        levels.rename(0, 1);
        int[] ahead = Told.seen(levels);
        due.is("at first", levels.back(), NO);
        due.are("nothing changes", Told.seen(levels), ahead);
        due.is("what can be undone stays", levels.undo(), 0);
        levels.keep();
        due.is("one", levels.back(), 0);
        due.is("no more", levels.back(), NO);
    }

    // "As KEPT last: how many are left"
    static void promise26AsKeptLast(Due due) {
        UniverseLevels levels = Told.laid("v0;v1;" + "c0,1,1;".repeat(16));
        levels.keep();
        for (int i = 0; i < 16; i++) {
            levels.retract(0);
        }
        levels.rename(1, 3);
        levels.keep();
        levels.ask(1, 9, 0);
        levels.rename(0, 2);
        due.is("the last", levels.back(), 1);
        due.are("bounds of the last", Told.bounds(levels));
        due.are("kinds of the last", Told.kinds(levels), 0, 3);
        due.is("its reach", levels.reach(1, 0), Told.NONE);
        due.is("the first", levels.back(), 0);
        due.is("bounds of the first", levels.count(1), 16);
        due.is("the 16th", levels.bound(15, 2), 101);
        due.are("kinds of the first", Told.kinds(levels), 0, 1);
        due.is("its value", levels.level(1, 1), 1);
    }

    // "nothing is UNDONE then"
    static void promise26NothingIsUndoneThen(Due due) {
        UniverseLevels levels = Told.laid("v0;v0;");
        levels.rename(0, 1);
        levels.keep();
        levels.rename(0, 2);
        levels.back();
        due.is("what can be undone", levels.count(6), 0);
        due.is("undo", levels.undo(), NO);
        due.is("as kept", levels.level(0, 0), 1);
        levels.rename(0, 3);
        due.is("an act behind it", levels.undo(), 0);
        due.is("as kept again", levels.level(0, 0), 1);
    }

    // "KEPT are KINDS and BOUNDS as they stand (not THE MAX, the ROUND, how many were REFUSED"
    static void promise26KindsAndBoundsAlone(Due due) {
        UniverseLevels levels = Told.laid("v0;v0;c0,1,1;");
        levels.keep();
        levels.ask(1, 0, 0);
        levels.term(1, 3);
        levels.write('x');
        levels.retract(0);
        due.is("back", levels.back(), 0);
        due.are("counts", Told.counts(levels), 2, 1, 1, 1, 0, 1, 0, 0, 14, 1);
        due.are("round", Told.round(levels), 0, 1);
        due.is("above", levels.round(10), 1);
        due.is("worth, by the bounds as kept", levels.worth(), 4);
    }

    // lay: "nothing .. KEPT"
    static void promise26NotBehindLay(Due due) {
        UniverseLevels levels = Told.laid("v0;v0;");
        levels.keep();
        levels.keep();
        levels.lay();
        due.is("back", levels.back(), NO);
    }

    // what is 0 to 9
    static void promise27WhatIs0To9(Due due) {
        UniverseLevels levels = Told.laid("v1;v0;");
        due.isBad("what", levels::count, -2, -1, 10, 11);
        due.is("0", levels.count(0), 2);
        due.is("9", levels.count(9), 0);
    }

    // the least of each
    static void promise27TheLeast(Due due) {
        UniverseLevels levels = Told.laid("v0;");
        levels.wipe();
        due.are("counts", Told.counts(levels), 1, 0, 0, 0, 0, 0, 0, 0, 0, 0);
    }

    // the greatest of each
    static void promise27TheGreatest(Due due) {
        due.is("levels", Told.laid(Told.STEEP).count(0), 10);
        due.is("bounds", Told.laid("v0;v0;" + "c0,0,1;".repeat(17)).count(1), 16);
        due.is("the greatest value", Told.laid(Told.STEEP).count(3), 90);
        due.is("floating", Told.laid("v1;v3;".repeat(5)).count(4), 10);
        UniverseLevels levels = Told.laid("v0;v0;");
        for (int i = 0; i < 9; i++) {
            levels.term(0, 0);
            levels.rename(0, i % 2 + 1);
            levels.keep();
        }
        due.is("terms", levels.count(5), 6);
        due.is("that can be undone", levels.count(6), 8);
        due.is("kept", levels.count(7), 2);
        Told.put(levels, "v".repeat(201));
        due.is("letters", levels.count(8), 200);
        due.is("pairs", Told.laid(Told.RING).count(9), 90);
    }

    // "REFUSED since it was LAID": of it, and behind it
    static void promise27RefusedSinceItWasLaid(Due due) {
        UniverseLevels levels = Told.laid("v0;v0;c0,1,1;c1,0,0;c1,1,0;");
        due.is("of it", levels.count(2), 2);
        for (int i = 0; i < 300; i++) {
            levels.ask(1, 0, 0);
        }
        due.is("300 behind it", levels.count(2), 302);
        levels.undo();
        levels.keep();
        levels.back();
        due.is("nothing takes them back", levels.count(2), 302);
        levels.lay();
        due.is("but lay", levels.count(2), 2);
    }

    // "the greatest VALUE"
    static void promise27TheGreatestValue(Due due) {
        due.is("of the first", Told.laid("v0;v0;v0;c1,4,0;c1,3,2;").count(3), 4);
        due.is("of the last", Told.laid("v0;v0;v0;c1,3,0;c1,4,2;").count(3), 4);
        due.is("not below 0", Told.laid(Told.SUNK).count(3), 0);
    }

    // "that are FLOATING": as KINDS stand
    static void promise27ThatAreFloating(Due due) {
        UniverseLevels levels = Told.laid("v0;v1;v2;v3;");
        due.is("one of each kind", levels.count(4), 2);
        levels.rename(3, 1);
        due.is("lax to floating", levels.count(4), 2);
        levels.rename(1, 2);
        due.is("floating to strict", levels.count(4), 1);
        levels.undo();
        due.is("undone", levels.count(4), 2);
    }

    // "pairs of LEVELS of which one REACHES the other (unlike ones, each way)"
    static void promise27PairsEachWay(Due due) {
        due.is("none with itself", Told.laid("v0;v0;").count(9), 0);
        due.is("one way", Told.laid("v0;v0;c0,0,1;").count(9), 1);
        due.is("one way twice", Told.laid("v0;v0;c0,0,1;c0,1,1;").count(9), 1);
        due.is("each way", Told.laid("v0;v0;c0,0,1;c1,0,0;").count(9), 2);
        due.is("a line of three", Told.laid("v0;v0;v0;c0,0,1;c1,0,2;").count(9), 3);
        due.is("a line of ten", Told.laid(Told.STEEP).count(9), 45);
        due.is("far below 0", Told.laid(Told.SUNK).count(9), 45);
    }
}
