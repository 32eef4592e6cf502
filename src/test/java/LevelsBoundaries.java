/** Boundary cases of promises 1 to 8: a new object, THE TEXT, LEVELS, BOUNDS, REACH. */
final class LevelsBoundaries {
    private static final int BAD = Told.BAD;
    private static final int NO = Told.NO;
    private static final int FULL = Told.FULL;
    private static final int NONE = Told.NONE;

    private LevelsBoundaries() {
    }

    // "at first v0;v1;v0;v3;v2;v1;v0;c0,1,1;c1,0,3;d3,2,2;c2,1,4;c4,2,5;c0,3,5;d5,6,1;c6,0,0;"
    static void promise01IsLaidAtFirst(Due due) {
        UniverseLevels levels = new UniverseLevels();
        due.are("kinds", Told.kinds(levels), 0, 1, 0, 3, 2, 1, 0);
        due.are("bounds", Told.bounds(levels),
                0, 1, 101, 1, 3, 99, 3, 2, 98, 2, 4, 102, 4, 5, 102, 0, 5, 103, 5, 6, 99);
        due.are("values", Told.values(levels), 0, 1, 0, 0, 2, 4, 3);
        due.are("round of the one refused", Told.round(levels), 0, 5, 6);
        due.is("by how much", levels.round(10), 2);
        due.is("refused", levels.count(2), 1);
    }

    // "THE MAX (6 TERMS at most, none at first)"; nothing UNDONE, KEPT, as behind lay
    static void promise01NothingElseIsThereAtFirst(Due due) {
        UniverseLevels levels = new UniverseLevels();
        due.are("counts", Told.counts(levels), 7, 7, 1, 4, 3, 0, 0, 0, 0, 21);
        due.is("undo", levels.undo(), NO);
        due.is("back", levels.back(), NO);
        due.is("empty", levels.empty(), 0);
        due.is("brief", levels.brief(), 0);
        due.is("worth", levels.worth(), 0);
    }

    // THE TEXT holds what was written alone
    static void promise01TheTextIsEmptyAtFirst(Due due) {
        UniverseLevels levels = new UniverseLevels();
        due.is("letters", levels.count(8), 0);
        due.is("fault", levels.fault(), NONE);
        due.is("lay", levels.lay(), NO);
        due.is("levels stay", levels.count(0), 7);
        due.is("wipe", levels.wipe(), 0);
        due.is("the first letter", levels.write('v'), 1);
    }

    // a new object is as told, whatever another one went through
    static void promise01ObjectsShareNothing(Due due) {
        UniverseLevels other = Told.laid("v3;v2;c0,9,1;");
        UniverseLevels levels = new UniverseLevels();
        int[] ahead = Told.seen(levels);
        other.ask(1, 9, 0);
        other.term(0, 9);
        other.keep();
        other.retract(0);
        other.write('x');
        due.are("seen", Told.seen(levels), ahead);
        due.are("counts of the other", Told.counts(other), 2, 0, 1, 0, 1, 1, 1, 1, 14, 0);
    }

    // "A letter (32 to 126, as in ASCII)"; "BAD"
    static void promise02LettersAre32To126(Due due) {
        UniverseLevels levels = new UniverseLevels();
        due.isBad("write", levels::write, -1, 0, 9, 10, 30, 31, 127, 128, 160, 255, 256 + 'v', 65536 + 'v', -'v');
        due.is("nothing is written", levels.count(8), 0);
        due.is("32", levels.write(32), 1);
        due.is("33", levels.write(33), 2);
        due.is("125", levels.write(125), 3);
        due.is("126", levels.write(126), 4);
        due.is("letters", levels.count(8), 4);
    }

    // "A TEXT is letters (200 at most)"; "FULL"
    static void promise02TheTextIsFullAt200(Due due) {
        UniverseLevels levels = new UniverseLevels();
        for (int i = 1; i <= 200; i++) {
            due.is("the letter " + i, levels.write("v0;".charAt((i - 1) % 3)), i);
        }
        due.is("the letter 201", levels.write(';'), FULL);
        due.is("once more", levels.write('v'), FULL);
        due.is("letters", levels.count(8), 200);
        due.is("wipe", levels.wipe(), 200);
        due.is("room again", levels.write('v'), 1);
    }

    // "Of several the first": BAD ahead of FULL
    static void promise02BadComesAheadOfFull(Due due) {
        UniverseLevels levels = new UniverseLevels();
        Told.put(levels, "v".repeat(200));
        due.isBad("write to a full text", levels::write, 31, 127);
        due.is("a right one", levels.write(32), FULL);
    }

    // FULL: "nothing changes then"
    static void promise02WhatIsFullKeepsTheText(Due due) {
        UniverseLevels levels = new UniverseLevels();
        Told.put(levels, "v0;v1;" + "c0,0,1;".repeat(26) + "v0;".repeat(4));
        due.is("letters", levels.count(8), 200);
        due.is("x", levels.write('x'), FULL);
        due.is("no fault of it", levels.fault(), NONE);
        due.is("lay", levels.lay(), 16);
    }

    // "THE TEXT is empty: how long it was"
    static void promise03HowLongItWas(Due due) {
        UniverseLevels levels = new UniverseLevels();
        due.is("an empty one", levels.wipe(), 0);
        levels.write('v');
        due.is("of one letter", levels.wipe(), 1);
        due.is("empty then", levels.count(8), 0);
        due.is("again", levels.wipe(), 0);
        Told.put(levels, "x".repeat(199));
        due.is("of 199", levels.wipe(), 199);
        due.is("no fault is left", levels.fault(), NONE);
        Told.put(levels, "x".repeat(200));
        due.is("of 200", levels.wipe(), 200);
    }

    // only THE TEXT is wiped
    static void promise03WhatIsLaidStays(Due due) {
        UniverseLevels levels = Told.laid("v0;v1;c0,1,1;c1,0,0;");
        levels.term(0, 2);
        levels.keep();
        levels.rename(0, 3);
        levels.wipe();
        due.are("counts", Told.counts(levels), 2, 1, 1, 1, 2, 1, 1, 1, 0, 1);
        due.are("round", Told.round(levels), 0, 1);
        due.is("undo", levels.undo(), 0);
        due.is("back", levels.back(), 0);
    }

    // "NONE": an empty TEXT has no ITEM that is not so
    static void promise04AnEmptyTextHasNone(Due due) {
        due.is("empty", Told.faultOf(""), NONE);
        due.is("one letter", Told.faultOf("v"), 0);
        due.is("two letters", Told.faultOf("v0"), 0);
        due.is("one item", Told.faultOf("v0;"), NONE);
    }

    // "each a letter": v, c, d and no other
    static void promise04LettersAreVCD(Due due) {
        for (char letter = 32; letter <= 126; letter++) {
            due.is(letter + " of one number", Told.faultOf("v0;v0;" + letter + "0;"), letter == 'v' ? NONE : 6);
            due.is(letter + " of three", Told.faultOf("v0;v0;" + letter + "0,5,1;"), letter == 'c' ? NONE : 6);
            due.is(letter + " of three, d", Told.faultOf("v0;v0;" + letter + "0,1,5;"), letter == 'd' ? NONE : 6);
            due.is(letter + " behind c", Told.faultOf("v0;v0;c0,0,1;" + letter + "1;"), letter == 'v' ? NONE : 13);
        }
    }

    // "numbers (one or two figures)"
    static void promise04NumbersAreOfOneOrTwoFigures(Due due) {
        due.is("none", Told.faultOf("v;"), 0);
        due.is("one", Told.faultOf("v3;"), NONE);
        due.is("two", Told.faultOf("v03;"), NONE);
        due.is("three", Told.faultOf("v003;"), 0);
        String levels = "v0;v0;";
        due.is("no first", Told.faultOf(levels + "c,1,1;"), 6);
        due.is("no second", Told.faultOf(levels + "c0,,1;"), 6);
        due.is("no third", Told.faultOf(levels + "c0,1,;"), 6);
        due.is("two each", Told.faultOf(levels + "c00,09,01;"), NONE);
        due.is("two each, d", Told.faultOf(levels + "d00,01,09;"), NONE);
        due.is("three of the first", Told.faultOf(levels + "c000,1,1;"), 6);
        due.is("three of the second", Told.faultOf(levels + "c0,001,1;"), 6);
        due.is("three of the third", Told.faultOf(levels + "c0,1,001;"), 6);
        due.is("three of the first, d", Told.faultOf(levels + "d000,1,1;"), 6);
        due.is("three of the second, d", Told.faultOf(levels + "d0,001,1;"), 6);
        due.is("three of the third, d", Told.faultOf(levels + "d0,1,001;"), 6);
    }

    // a figure is 0 to 9
    static void promise04FiguresAre0To9(Due due) {
        for (char letter = 32; letter <= 126; letter++) {
            boolean isKind = letter >= '0' && letter <= '3';
            boolean isFigure = letter >= '0' && letter <= '9';
            due.is("v" + letter, Told.faultOf("v" + letter + ";"), isKind ? NONE : 0);
            due.is("v0" + letter, Told.faultOf("v0" + letter + ";"), isKind ? NONE : letter == ';' ? 3 : 0);
            due.is("c0," + letter, Told.faultOf("v0;v0;c0," + letter + ",1;"), isFigure ? NONE : 6);
            due.is("c0,0" + letter, Told.faultOf("v0;v0;c0,0" + letter + ",1;"), isFigure ? NONE : 6);
        }
    }

    // "parted by , and a ; behind the last one"
    static void promise04NumbersArePartedAndEnded(Due due) {
        String levels = "v0;v0;";
        for (char letter = 32; letter <= 126; letter++) {
            boolean isFigure = letter >= '0' && letter <= '9';
            due.is("v0" + letter, Told.faultOf("v0" + letter), letter == ';' ? NONE : 0);
            due.is("first" + letter, Told.faultOf(levels + "c0" + letter + "1,1;"), letter == ',' ? NONE : 6);
            due.is("second" + letter, Told.faultOf(levels + "c0,1" + letter + "1;"), letter == ',' ? NONE : 6);
            due.is("third" + letter, Told.faultOf(levels + "c0,1,1" + letter), letter == ';' ? NONE : 6);
            if (!isFigure) {
                due.is("third" + letter + ";", Told.faultOf(levels + "c0,1,1" + letter + ";"), letter == ';' ? 13 : 6);
            }
        }
    }

    // v has one number, c and d have three
    static void promise04HowManyNumbers(Due due) {
        String levels = "v0;v0;";
        due.is("v of two", Told.faultOf(levels + "v0,0;"), 6);
        due.is("v of three", Told.faultOf(levels + "v0,1,1;"), 6);
        due.is("c of one", Told.faultOf(levels + "c0;"), 6);
        due.is("c of two", Told.faultOf(levels + "c0,1;"), 6);
        due.is("c of four", Told.faultOf(levels + "c0,1,1,1;"), 6);
        due.is("d of one", Told.faultOf(levels + "d0;"), 6);
        due.is("d of two", Told.faultOf(levels + "d0,1;"), 6);
        due.is("d of four", Told.faultOf(levels + "d0,1,1,1;"), 6);
        due.is("v of none", Told.faultOf(levels + "v;"), 6);
        due.is("c of none", Told.faultOf(levels + "c;"), 6);
        due.is("d of none", Told.faultOf(levels + "d;"), 6);
        due.is("nothing at all", Told.faultOf(levels + ";"), 6);
    }

    // an ITEM that THE TEXT's end cuts off is not so, wherever it is cut
    static void promise04CutOff(Due due) {
        String text = "v0;v0;c00,01,01;";
        for (int length = 7; length < text.length(); length++) {
            due.is("cut at " + length, Told.faultOf(text.substring(0, length)), 6);
        }
        due.is("whole", Told.faultOf(text), NONE);
    }

    // "KIND K (0 FIXED, 1 FLOATING, 2 STRICT, 3 LAX)"
    static void promise04KindsAre0To3(Due due) {
        for (int kind = 0; kind <= 99; kind++) {
            due.is("kind " + kind, Told.faultOf("v0;v" + kind + ";"), kind <= 3 ? NONE : 3);
        }
    }

    // "10 at most"
    static void promise04LevelsAre10AtMost(Due due) {
        due.is("9", Told.faultOf("v0;".repeat(9)), NONE);
        due.is("10", Told.faultOf("v0;".repeat(10)), NONE);
        due.is("11", Told.faultOf("v0;".repeat(11)), 30);
        due.is("12", Told.faultOf("v0;".repeat(12)), 30);
        due.is("10 and a bound", Told.faultOf("v0;".repeat(10) + "c0,0,9;"), NONE);
        due.is("the 11th behind a bound", Told.faultOf("v0;".repeat(10) + "c0,0,9;v0;"), 37);
        due.is("11 of two figures", Told.faultOf("v01;".repeat(11)), 40);
    }

    // "LEVEL U .. LEVEL V (unlike ones, told ahead)" of c
    static void promise04LevelsOfCAreToldAhead(Due due) {
        for (int u = 0; u <= 99; u++) {
            due.is("from " + u + " of 3", Told.faultOf("v0;v0;v0;c" + u + ",0,1;"), u < 3 && u != 1 ? NONE : 9);
            due.is("to " + u + " of 3", Told.faultOf("v0;v0;v0;c1,0," + u + ";"), u < 3 && u != 1 ? NONE : 9);
            due.is("from " + u + " of 10", Told.faultOf("v0;".repeat(10) + "c" + u + ",0,0;"),
                    u > 0 && u < 10 ? NONE : 30);
        }
        due.is("of none", Told.faultOf("c0,0,1;v0;v0;"), 0);
        due.is("from told behind", Told.faultOf("v0;c1,0,0;v0;"), 3);
        due.is("to told behind", Told.faultOf("v0;c0,0,1;v0;"), 3);
        due.is("told just ahead", Told.faultOf("v0;v0;c1,0,0;v0;c2,0,0;"), NONE);
    }

    // "LEVEL U .. LEVEL V .. likewise" of d
    static void promise04LevelsOfDAreToldAhead(Due due) {
        for (int u = 0; u <= 99; u++) {
            due.is("from " + u + " of 3", Told.faultOf("v0;v0;v0;d" + u + ",1,0;"), u < 3 && u != 1 ? NONE : 9);
            due.is("to " + u + " of 3", Told.faultOf("v0;v0;v0;d1," + u + ",0;"), u < 3 && u != 1 ? NONE : 9);
            due.is("to " + u + " of 10", Told.faultOf("v0;".repeat(10) + "d0," + u + ",0;"),
                    u > 0 && u < 10 ? NONE : 30);
        }
        due.is("of none", Told.faultOf("d0,1,0;v0;v0;"), 0);
        due.is("from told behind", Told.faultOf("v0;d1,0,0;v0;"), 3);
        due.is("to told behind", Told.faultOf("v0;d0,1,0;v0;"), 3);
        due.is("told just ahead", Told.faultOf("v0;v0;d1,0,0;v0;d2,0,0;"), NONE);
    }

    // "K (0 to 9)"
    static void promise04KIs0To9(Due due) {
        for (int k = 0; k <= 99; k++) {
            due.is("c of " + k, Told.faultOf("v0;v0;c0," + k + ",1;"), k <= 9 ? NONE : 6);
            due.is("d of " + k, Told.faultOf("v0;v0;d0,1," + k + ";"), k <= 9 ? NONE : 6);
        }
        due.is("c below 0", Told.faultOf("v0;v0;c0,-1,1;"), 6);
        due.is("d below 0", Told.faultOf("v0;v0;d0,1,-1;"), 6);
    }

    // "FAULT: the place of the first letter of the first ITEM that is not so"
    static void promise04TheFirstOfSeveral(Due due) {
        due.is("two", Told.faultOf("v0;v4;v5;"), 3);
        due.is("the first of all", Told.faultOf("x;v4;v5;"), 0);
        due.is("of two ways of being wrong", Told.faultOf("v0;v0;c0,10,0;x"), 6);
        due.is("a level that isn't so is none", Told.faultOf("v0;v4;c0,0,1;"), 3);
        due.is("a right one behind it", Told.faultOf("v0;v4;v0;"), 3);
    }

    // places up to the 200th letter
    static void promise04PlacesReachToTheEnd(Due due) {
        String text = "v0;v0;" + "c0,0,1;".repeat(27);
        due.is("the last item cut off by the end", Told.faultOf(text + "v0;v0;"), 198);
        due.is("the last letter", Told.faultOf(text + "v00;x"), 199);
        due.is("200 letters without", Told.faultOf("v0;v0;" + "c0,0,1;".repeat(26) + "v0;".repeat(4)), NONE);
    }

    // to ask for FAULT changes nothing
    static void promise04ChangesNothing(Due due) {
        UniverseLevels levels = Told.laid("v0;v1;c0,1,1;c1,0,0;");
        levels.term(1, 1);
        Told.put(levels, "v0;v3;c0,0,2;");
        int[] ahead = Told.seen(levels);
        due.is("fault", levels.fault(), 6);
        due.is("again", levels.fault(), 6);
        due.are("seen", Told.seen(levels), ahead);
    }

    // "a TEXT without FAULT, of a LEVEL at least (NO else"
    static void promise05OfALevelAtLeast(Due due) {
        UniverseLevels levels = new UniverseLevels();
        int[] ahead = Told.seen(levels);
        due.is("no letter", levels.lay(), NO);
        due.are("nothing changes", Told.seen(levels), ahead);
        Told.put(levels, "v3;");
        due.is("a level", levels.lay(), 0);
        due.are("it alone", Told.kinds(levels), 3);
    }

    // "LAID is a TEXT without FAULT .. (NO else"; "nothing changes then"
    static void promise05WithAFaultNothingChanges(Due due) {
        UniverseLevels levels = Told.laid("v0;v1;c0,1,1;c1,0,0;");
        levels.term(1, 1);
        levels.keep();
        levels.rename(0, 3);
        for (String text : new String[] {"v4;", "v0;v0;c0,0,0;", "v0;v0", " v0;", "v0;".repeat(11)}) {
            Told.put(levels, text);
            due.is(text, levels.lay(), NO);
            due.are("counts at " + text, Told.counts(levels), 2, 1, 1, 1, 2, 1, 1, 1, text.length(), 1);
            due.are("kinds at " + text, Told.kinds(levels), 3, 1);
            due.are("round at " + text, Told.round(levels), 0, 1);
        }
        due.is("undo", levels.undo(), 0);
        due.is("back", levels.back(), 0);
    }

    // "10 at most"
    static void promise05TenLevels(Due due) {
        UniverseLevels levels = Told.laid("v0;v1;v2;v3;v0;v1;v2;v3;v0;v2;c9,1,0;");
        due.are("kinds", Told.kinds(levels), 0, 1, 2, 3, 0, 1, 2, 3, 0, 2);
        due.are("bounds", Told.bounds(levels), 9, 0, 101);
    }

    // "BOUNDS 0, 1, .. (16 at most) are TAKEN"; "TAKEN, behind all others (if there is room)"
    static void promise05SixteenBoundsAtMost(Due due) {
        due.is("15", Told.laid("v0;v0;" + "c0,0,1;".repeat(15)).count(1), 15);
        due.is("16", Told.laid("v0;v0;" + "c0,0,1;".repeat(16)).count(1), 16);
        UniverseLevels levels = new UniverseLevels();
        Told.put(levels, "v0;v0;v0;" + "c0,0,1;".repeat(16) + "c1,5,2;v3;c1,1,0;c0,1,3;");
        due.is("lay", levels.lay(), 16);
        due.is("the 17th is not taken", levels.reach(1, 2), NONE);
        due.is("a level behind it is", levels.level(3, 0), 3);
        due.is("the one refused behind it counts", levels.count(2), 1);
        due.are("and shows its round", Told.round(levels), 0, 1);
    }

    // "all is ASKED one by one, as it comes"
    static void promise05AsItComes(Due due) {
        due.are("the first is taken", Told.bounds(Told.laid("v0;v0;c0,1,1;c1,0,0;")), 0, 1, 101);
        due.are("the other is taken", Told.bounds(Told.laid("v0;v0;c1,0,0;c0,1,1;")), 1, 0, 100);
        UniverseLevels levels = Told.laid("v0;v0;c0,1,1;v2;c1,0,2;d2,0,2;d2,0,1;");
        due.are("between levels", Told.bounds(levels), 0, 1, 101, 1, 2, 101, 2, 0, 98);
        due.is("the last is refused", levels.count(2), 1);
    }

    // "WEIGHT of K .. towards a LEVEL is K for a FIXED one; .. FLOATING .. as for a FIXED one; .. STRICT .. 1 more ..;
    // .. LAX .. 1 less"; "no more than LEVEL V and K" is -K
    static void promise05WeightsOfATextByKind(Due due) {
        String kinds = "v0;v0;v1;v2;v3;";
        due.are("c of 9", Told.bounds(Told.laid(kinds + "c0,9,1;c0,9,2;c0,9,3;c0,9,4;")),
                0, 1, 109, 0, 2, 109, 0, 3, 110, 0, 4, 108);
        due.are("c of 0", Told.bounds(Told.laid(kinds + "c0,0,1;c0,0,2;c0,0,3;c0,0,4;")),
                0, 1, 100, 0, 2, 100, 0, 3, 101, 0, 4, 99);
        due.are("d of 0", Told.bounds(Told.laid(kinds + "d0,1,0;d0,2,0;d0,3,0;d0,4,0;")),
                0, 1, 100, 0, 2, 100, 0, 3, 101, 0, 4, 99);
        due.are("d of 9", Told.bounds(Told.laid(kinds + "d0,1,9;d0,2,9;d0,3,9;d0,4,9;")),
                0, 1, 91, 0, 2, 91, 0, 3, 92, 0, 4, 90);
        due.are("the kind of the one it comes from is nothing to it", Told.bounds(Told.laid("v2;v3;v0;c0,5,2;c1,5,2;")),
                0, 2, 105, 1, 2, 105);
    }

    // "REFUSED, if REACH from V to U and its WEIGHT are above 0 together; else TAKEN"
    static void promise05RefusedAbove0(Due due) {
        due.is("-1 together", Told.laid("v0;v0;c0,1,1;d1,0,2;").count(1), 2);
        due.is("0 together", Told.laid("v0;v0;c0,1,1;d1,0,1;").count(1), 2);
        due.is("1 together", Told.laid("v0;v0;c0,1,1;d1,0,0;").count(1), 1);
        due.is("0, over a strict one", Told.laid("v0;v2;c0,0,1;d1,0,1;").count(1), 2);
        due.is("1, over a strict one", Told.laid("v0;v2;c0,0,1;d1,0,0;").count(1), 1);
        due.is("0, over a lax one", Told.laid("v0;v3;c0,1,1;c1,0,0;").count(1), 2);
        due.is("1, over a lax one", Told.laid("v0;v3;c0,2,1;c1,0,0;").count(1), 1);
    }

    // "(no TERM; nothing UNDONE, KEPT; the ROUND is that of the last one REFUSED of it)"
    static void promise05WhatWasIsGone(Due due) {
        UniverseLevels levels = new UniverseLevels();
        levels.term(0, 1);
        levels.keep();
        levels.keep();
        levels.rename(0, 1);
        Told.put(levels, "v0;v0;c0,1,1;");
        due.is("lay", levels.lay(), 1);
        due.are("counts", Told.counts(levels), 2, 1, 0, 1, 0, 0, 0, 0, 13, 1);
        due.is("no round: none was refused of it", levels.round(-1), NONE);
        due.is("nor by how much", levels.round(10), NONE);
        due.is("undo", levels.undo(), NO);
        due.is("back", levels.back(), NO);
        due.is("worth", levels.worth(), 0);
        due.is("keep", levels.keep(), 1);
    }

    // what is LAID is all there is: nothing of more LEVELS and BOUNDS that were laid ahead is left
    static void promise05FewerThanAhead(Due due) {
        String few = "v1;v0;v1;c0,1,2;";
        for (String many : new String[] {Told.STEEP, Told.RING, "v0;".repeat(10) + "c3,1,0;c4,1,1;c5,1,2;c0,1,4;"}) {
            UniverseLevels levels = Told.laid(many);
            Told.put(levels, few);
            due.is("lay", levels.lay(), 1);
            UniverseLevels fresh = Told.laid(few);
            due.are("seen", Told.seen(levels), Told.seen(fresh));
            for (int u = 0; u < 4; u++) {
                for (int what = 0; what <= 4; what++) {
                    due.is("level " + u + " " + what, levels.level(u, what), fresh.level(u, what));
                }
                for (int v = 0; v < 4; v++) {
                    due.is("reach " + u + " " + v, levels.reach(u, v), fresh.reach(u, v));
                    due.is("stands " + u + " " + v, levels.stands(u, 9, v, -1), fresh.stands(u, 9, v, -1));
                }
                due.is("roots " + u, levels.roots(u), fresh.roots(u));
                due.is("loose " + u, levels.loose(u, 0), fresh.loose(u, 0));
                due.is("pinned " + u, levels.loose(u, 1), fresh.loose(u, 1));
            }
        }
    }

    // "the ROUND is that of the last one REFUSED of it"
    static void promise05TheLastOneRefusedOfIt(Due due) {
        UniverseLevels levels = Told.laid("v0;v0;v0;c0,1,1;c1,0,0;c1,1,2;c2,3,0;c2,0,1;c0,1,2;");
        due.is("refused", levels.count(2), 3);
        due.are("round", Told.round(levels), 1, 2);
        due.is("above", levels.round(10), 1);
    }

    // nothing tells that THE TEXT goes
    static void promise05TheTextStays(Due due) {
        UniverseLevels levels = Told.laid("v0;v0;c0,1,1;");
        due.is("letters", levels.count(8), 13);
        levels.retract(0);
        due.is("lay again", levels.lay(), 1);
        due.is("letters again", levels.count(8), 13);
        due.is("behind it", levels.write('v'), 14);
        due.is("no more without a fault", levels.lay(), NO);
    }

    // "LEVELS .. such as there are"
    static void promise06LevelsThereAre(Due due) {
        UniverseLevels one = Told.laid("v2;");
        UniverseLevels ten = Told.laid("v2;".repeat(10));
        for (int what = 0; what <= 4; what++) {
            int which = what;
            due.isBad("of one, what " + what, u -> one.level(u, which), -1, 1, 2, 10);
            due.isBad("of ten, what " + what, u -> ten.level(u, which), -1, 10, 11);
        }
        due.is("0 of one", one.level(0, 0), 2);
        due.is("0 of ten", ten.level(0, 0), 2);
        due.is("8 of ten", ten.level(8, 2), 8);
        due.is("9 of ten", ten.level(9, 2), 9);
    }

    // what is 0 to 4
    static void promise06WhatIs0To4(Due due) {
        UniverseLevels levels = Told.laid("v0;v3;c0,9,1;");
        due.isBad("level 1", what -> levels.level(1, what), -2, -1, 5, 6);
        due.isBad("no level", what -> levels.level(2, what), -1, 0, 4, 5);
        due.is("0", levels.level(1, 0), 3);
        due.is("1", levels.level(1, 1), 8);
        due.is("2", levels.level(1, 2), 1);
        due.is("3", levels.level(1, 3), 2);
        due.is("4", levels.level(1, 4), 1);
    }

    // "VALUE of a LEVEL: the least, none being below 0, with which all BOUNDS are so"
    static void promise06ValuesAreNotBelow0(Due due) {
        due.are("no bound", Told.values(Told.laid("v0;v1;v2;v3;")), 0, 0, 0, 0);
        due.are("-1", Told.values(Told.laid("v0;v0;d0,1,1;")), 0, 0);
        due.are("0", Told.values(Told.laid("v0;v0;d0,1,0;")), 0, 0);
        due.are("1", Told.values(Told.laid("v0;v0;c0,1,1;")), 0, 1);
        due.are("far below", Told.values(Told.laid(Told.SUNK)), 0, 0, 0, 0, 0, 0, 0, 0, 0, 0);
        due.are("below 0 between", Told.values(Told.laid("v0;v0;v0;d0,1,5;c1,3,2;")), 0, 0, 3);
        due.are("a round of 0", Told.values(Told.laid("v0;v0;c0,3,1;d1,0,3;")), 0, 3);
        due.are("a round below 0", Told.values(Told.laid("v0;v0;c0,3,1;d1,0,2;d1,0,9;")), 0, 3);
    }

    // the greatest VALUE that there can be
    static void promise06TheGreatestValues(Due due) {
        due.are("steep", Told.values(Told.laid(Told.STEEP)), 0, 10, 20, 30, 40, 50, 60, 70, 80, 90);
    }

    // "PLACE of a LEVEL: how many have a lower VALUE, or the same and a lower number"
    static void promise06PlacesByValueThenNumber(Due due) {
        UniverseLevels alike = Told.laid("v0;".repeat(10));
        for (int u = 0; u < 10; u++) {
            due.is("alike " + u, alike.level(u, 2), u);
        }
        UniverseLevels levels = Told.laid("v0;v0;v0;v0;c3,1,0;c3,1,1;c3,2,2;");
        due.is("1, the lower number", levels.level(0, 2), 1);
        due.is("1, the higher number", levels.level(1, 2), 2);
        due.is("2", levels.level(2, 2), 3);
        due.is("0", levels.level(3, 2), 0);
        UniverseLevels down = Told.laid("v0;v0;v0;c2,1,1;c1,1,0;");
        due.is("last to be first", down.level(2, 2), 0);
        due.is("first to be last", down.level(0, 2), 2);
        UniverseLevels single = Told.laid("v0;");
        due.is("a single one", single.level(0, 2), 0);
    }

    // "SAME as a LEVEL are those with REACH of 0 there, and of 0 back (itself too)"
    static void promise06SameThereAndBack(Due due) {
        UniverseLevels ring = Told.laid(Told.RING);
        for (int u = 0; u < 10; u++) {
            due.is("in a round of 0: " + u, ring.level(u, 3), 1023);
        }
        due.is("itself alone", Told.laid("v0;v0;").level(1, 3), 2);
        UniverseLevels there = Told.laid("v0;v0;c0,0,1;");
        due.is("0 there, none back", there.level(0, 3), 1);
        due.is("none there, 0 back", there.level(1, 3), 2);
        UniverseLevels near = Told.laid("v0;v0;c0,0,1;d1,0,1;");
        due.is("0 there, -1 back", near.level(0, 3), 1);
        due.is("-1 there, 0 back", near.level(1, 3), 2);
        UniverseLevels tied = Told.laid("v0;v0;c0,1,1;d1,0,1;");
        due.is("1 there, -1 back", tied.level(0, 3), 1);
        due.is("-1 there, 1 back", tied.level(1, 3), 2);
    }

    // "FLOATING LEVEL (LAX ones are, too; FIXED ones, STRICT ones are not)"
    static void promise06FloatingByKind(Due due) {
        UniverseLevels levels = Told.laid("v0;v1;v2;v3;");
        for (int kind = 0; kind <= 3; kind++) {
            due.is("kind " + kind, levels.level(kind, 0), kind);
            due.is("floats " + kind, levels.level(kind, 4), kind % 2);
        }
    }

    // "BOUNDS .. such as there are"
    static void promise07BoundsThereAre(Due due) {
        UniverseLevels none = Told.laid("v0;v0;");
        UniverseLevels one = Told.laid("v0;v0;c0,1,1;");
        UniverseLevels all = Told.laid("v0;v0;" + "c0,0,1;".repeat(15) + "c1,0,0;");
        for (int what = 0; what <= 4; what++) {
            int which = what;
            due.isBad("of none, what " + what, b -> none.bound(b, which), -1, 0, 1);
            due.isBad("of one, what " + what, b -> one.bound(b, which), -1, 1, 2, 16);
            due.isBad("of 16, what " + what, b -> all.bound(b, which), -1, 16, 17);
        }
        due.is("0 of one", one.bound(0, 1), 1);
        due.is("14 of 16", all.bound(14, 0), 0);
        due.is("15 of 16", all.bound(15, 0), 1);
        one.retract(0);
        due.is("0 of one that was taken back", one.bound(0, 0), BAD);
    }

    // what is 0 to 4
    static void promise07WhatIs0To4(Due due) {
        UniverseLevels levels = Told.laid("v0;v0;c0,1,1;");
        due.isBad("bound 0", what -> levels.bound(0, what), -2, -1, 5, 6);
        due.isBad("no bound", what -> levels.bound(1, what), -1, 0, 4, 5);
        due.is("0", levels.bound(0, 0), 0);
        due.is("1", levels.bound(0, 1), 1);
        due.is("2", levels.bound(0, 2), 101);
        due.is("3", levels.bound(0, 3), 0);
        due.is("4", levels.bound(0, 4), NONE);
    }

    // "WEIGHT and 100": the least and the greatest
    static void promise07WeightsFromMinus10To10(Due due) {
        due.is("-10", Told.laid("v0;v3;d0,1,9;").bound(0, 2), 90);
        due.is("10", Told.laid("v0;v2;c0,9,1;").bound(0, 2), 110);
        due.is("0", Told.laid("v0;v1;c0,0,1;").bound(0, 2), 100);
    }

    // "A BOUND is NEEDLESS, if it FOLLOWS from all others"
    static void promise07NeedlessByAllOthers(Due due) {
        due.is("alone", Told.laid("v0;v0;c0,0,1;").bound(0, 3), 0);
        due.is("alone, -10", Told.laid("v0;v3;d0,1,9;").bound(0, 3), 0);
        UniverseLevels beside = Told.laid("v0;v0;c0,2,1;c0,1,1;");
        due.is("by 1 more", beside.bound(1, 3), 1);
        due.is("by 1 less", beside.bound(0, 3), 0);
        UniverseLevels twins = Told.laid("v0;v0;c0,2,1;c0,2,1;");
        due.is("by as much, the first", twins.bound(0, 3), 1);
        due.is("by as much, the second", twins.bound(1, 3), 1);
        String way = "v0;v0;v0;c0,1,1;c1,1,2;";
        due.is("1 below a way of 2", Told.laid(way + "c0,1,2;").bound(2, 3), 1);
        due.is("as much as a way of 2", Told.laid(way + "c0,2,2;").bound(2, 3), 1);
        due.is("1 above a way of 2", Told.laid(way + "c0,3,2;").bound(2, 3), 0);
        due.is("only a way back", Told.laid("v0;v0;c0,1,1;d1,0,9;").bound(1, 3), 0);
        UniverseLevels last = Told.laid("v0;v0;v0;" + "c0,0,1;".repeat(15) + "c1,0,2;");
        due.is("of 16 the last", last.bound(15, 3), 0);
        due.is("of 16 one of many", last.bound(14, 3), 1);
    }

    // "SLACK of one: by how much its WEIGHT could be more .. before it would be REFUSED"
    static void promise07SlackBeforeItWouldBeRefused(Due due) {
        UniverseLevels tight = Told.laid("v0;v0;c0,1,1;d1,0,1;");
        due.is("0", tight.bound(0, 4), 0);
        due.is("0 of the other", tight.bound(1, 4), 0);
        UniverseLevels near = Told.laid("v0;v0;c0,1,1;d1,0,2;");
        due.is("1", near.bound(0, 4), 1);
        due.is("1 of the other", near.bound(1, 4), 1);
        UniverseLevels ring = Told.laid(Told.SUNK + "d9,0,9;");
        for (int b = 0; b < 10; b++) {
            due.is("the greatest: 100 of " + b, ring.bound(b, 4), 100);
        }
        UniverseLevels beside = Told.laid("v0;v0;d0,1,5;c0,1,1;d1,0,3;");
        due.is("of the lesser beside a greater one", beside.bound(0, 4), 8);
        due.is("of the greater one", beside.bound(1, 4), 2);
        due.is("back, against the greater one", beside.bound(2, 4), 2);
    }

    // SLACK is as much as can be asked in place of the BOUND, and no more
    static void promise07SlackIsAsMuchAsCanBeAsked(Due due) {
        UniverseLevels levels = Told.laid("v0;v0;v0;c0,2,1;d1,2,1;d2,0,4;");
        due.is("slack", levels.bound(2, 4), 3);
        levels.retract(2);
        due.is("1 more is refused", levels.ask(2, 0, 0), NO);
        due.is("as much is taken", levels.ask(2, -1, 0), 2);
    }

    // SLACK: "none (there is no WAY back)"
    static void promise07NoSlackWithoutAWayBack(Due due) {
        UniverseLevels levels = Told.laid("v0;v0;v0;c0,1,1;d1,0,9;c0,1,2;");
        due.is("a way back", levels.bound(0, 4), 8);
        due.is("none back", levels.bound(2, 4), NONE);
        levels.retract(1);
        due.is("none any more", levels.bound(0, 4), NONE);
    }

    // "LEVELS .. such as there are"
    static void promise08LevelsThereAre(Due due) {
        UniverseLevels levels = Told.laid("v0;v0;c0,1,1;");
        due.isBad("from", u -> levels.reach(u, 1), -1, 2, 10);
        due.isBad("to", v -> levels.reach(0, v), -1, 2, 10);
        due.isBad("both", u -> levels.reach(u, u), -1, 2, 10);
        UniverseLevels ten = Told.laid(Told.STEEP);
        due.isBad("from, of ten", u -> ten.reach(u, 9), -1, 10);
        due.isBad("to, of ten", v -> ten.reach(0, v), -1, 10);
        due.is("9", ten.reach(8, 9), 1010);
    }

    // "that of no BOUND from a LEVEL to itself 0"
    static void promise08ToItself0(Due due) {
        due.is("no bound", Told.laid("v0;").reach(0, 0), 1000);
        due.is("a round of 0", Told.laid(Told.RING).reach(9, 9), 1000);
        due.is("a round below 0", Told.laid("v0;v0;c0,1,1;d1,0,9;").reach(1, 1), 1000);
    }

    // "REACH from U to V is the greatest LENGTH of all WAYS": the least and the greatest that there can be
    static void promise08FromMinus90To90(Due due) {
        due.is("90", Told.laid(Told.STEEP).reach(0, 9), 1090);
        due.is("-90", Told.laid(Told.SUNK).reach(0, 9), 910);
        due.is("0", Told.laid(Told.RING).reach(0, 9), 1000);
        due.is("-90, and a shorter way of -10", Told.laid(Told.SUNK + "d0,9,9;").reach(0, 9), 990);
    }

    // "the greatest LENGTH of all WAYS"
    static void promise08TheGreatestOfAllWays(Due due) {
        UniverseLevels levels = Told.laid("v0;v0;v0;c0,1,1;c1,1,2;c0,1,2;");
        due.is("2 over another, 1 at once", levels.reach(0, 2), 1002);
        levels.ask(0, 3, 2);
        due.is("3 at once", levels.reach(0, 2), 1003);
    }

    // "none (there is no WAY)"
    static void promise08NoneWithoutAWay(Due due) {
        UniverseLevels levels = Told.laid("v0;v0;v0;c0,9,1;c2,9,1;");
        due.is("back", levels.reach(1, 0), NONE);
        due.is("aside", levels.reach(0, 2), NONE);
        due.is("no bound at all", Told.laid("v0;v0;").reach(0, 1), NONE);
        due.is("back in a steep line", Told.laid(Told.STEEP).reach(9, 0), NONE);
    }
}
