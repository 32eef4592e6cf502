/** Boundary cases of promises 18 to 22: THE MAX. */
final class RowsBoundaries {
    private static final int FULL = Told.FULL;

    private RowsBoundaries() {
    }

    /** LEVELS and K by turns. */
    private static UniverseLevels withTerms(String text, int... terms) {
        UniverseLevels levels = Told.laid(text);
        for (int i = 0; i + 1 < terms.length; i += 2) {
            levels.term(terms[i], terms[i + 1]);
        }
        return levels;
    }

    // "LEVELS .. such as there are"
    static void promise18LevelsThereAre(Due due) {
        UniverseLevels levels = Told.laid("v0;v0;");
        due.isBad("level", u -> levels.term(u, 0), -1, 2, 10);
        due.is("none came", levels.count(5), 0);
        due.is("0", levels.term(0, 0), 1);
        due.is("1", levels.term(1, 0), 2);
    }

    // "a LEVEL and K (-9 to 9)"
    static void promise18KIsMinus9To9(Due due) {
        UniverseLevels levels = Told.laid("v0;");
        due.isBad("k", k -> levels.term(0, k), -11, -10, 10, 11);
        due.is("none came", levels.count(5), 0);
        due.is("-9", levels.term(0, -9), 1);
        due.is("-8", levels.term(0, -8), 2);
        due.is("8", levels.term(0, 8), 3);
        due.is("9", levels.term(0, 9), 4);
    }

    // "THE MAX (6 TERMS at most"; "FULL"
    static void promise18FullAt6(Due due) {
        UniverseLevels levels = Told.laid("v0;v0;");
        for (int i = 1; i <= 6; i++) {
            due.is("term " + i, levels.term(0, i), i);
        }
        int[] ahead = Told.seen(levels);
        due.is("the 7th", levels.term(1, 9), FULL);
        due.is("once more", levels.term(1, 9), FULL);
        due.are("nothing changes", Told.seen(levels), ahead);
    }

    // "Of several the first": BAD, then FULL
    static void promise18BadComesAheadOfFull(Due due) {
        UniverseLevels levels = withTerms("v0;", 0, 1, 0, 1, 0, 1, 0, 1, 0, 1, 0, 1);
        due.isBad("level", u -> levels.term(u, 0), -1, 1);
        due.isBad("k", k -> levels.term(0, k), -10, 10);
        due.is("right ones", levels.term(0, 0), FULL);
    }

    // a TERM is nothing that could be UNDONE
    static void promise18IsNoAct(Due due) {
        UniverseLevels levels = withTerms("v0;", 0, 1);
        due.is("nothing to undo", levels.undo(), Told.NO);
        due.is("it stays", levels.count(5), 1);
    }

    // "THE MAX is empty: how many TERMS it had"
    static void promise19HowManyItHad(Due due) {
        UniverseLevels levels = Told.laid("v0;");
        due.is("none", levels.empty(), 0);
        levels.term(0, 9);
        due.is("one", levels.empty(), 1);
        due.is("none again", levels.empty(), 0);
        for (int i = 0; i < 7; i++) {
            levels.term(0, 9);
        }
        due.is("six", levels.empty(), 6);
        due.is("terms", levels.count(5), 0);
    }

    // empty, it is as at first
    static void promise19EmptyIsAsAtFirst(Due due) {
        UniverseLevels levels = withTerms("v0;v0;", 0, 9, 1, 9, 0, 9, 1, 9, 0, 9, 1, 9);
        levels.empty();
        due.is("brief", levels.brief(), 0);
        due.is("worth", levels.worth(), 0);
        due.is("below", levels.below(0, -9), 1);
        due.is("the first anew", levels.term(1, -3), 1);
        due.is("it is 0", levels.brief(), 1);
        due.is("nothing of the old ones", levels.worth(), 0);
    }

    // no TERM: none is SHORT; six: six bits
    static void promise20FromNoneToSix(Due due) {
        due.is("none", Told.laid("v0;").brief(), 0);
        due.is("one", withTerms("v0;", 0, -9).brief(), 1);
        due.is("six unlike ones", withTerms("v0;".repeat(6), 0, 0, 1, 0, 2, 0, 3, 0, 4, 0, 5, 0).brief(), 63);
        due.is("six alike", withTerms("v0;", 0, 5, 0, 5, 0, 5, 0, 5, 0, 5, 0, 5).brief(), 1);
        due.is("six, each more", withTerms("v0;", 0, 0, 0, 1, 0, 2, 0, 3, 0, 4, 0, 5).brief(), 32);
        due.is("six, each less", withTerms("v0;", 0, 5, 0, 4, 0, 3, 0, 2, 0, 1, 0, 0).brief(), 1);
    }

    // "COVERED by another one, if it FOLLOWS that it is no more"
    static void promise20CoveredIfItFollows(Due due) {
        String text = "v0;v0;c0,2,1;";
        due.is("1 less than as much", withTerms(text, 0, 1, 1, 0).brief(), 2);
        due.is("as much", withTerms(text, 0, 2, 1, 0).brief(), 2);
        due.is("1 more", withTerms(text, 0, 3, 1, 0).brief(), 3);
        due.is("as much, by numbers the other way", withTerms(text, 1, 0, 0, 2).brief(), 1);
        due.is("1 more, by numbers the other way", withTerms(text, 1, 0, 0, 3).brief(), 3);
        due.is("as much, k below 0", withTerms(text, 0, -7, 1, -9).brief(), 2);
        due.is("1 more, k below 0", withTerms(text, 0, -6, 1, -9).brief(), 3);
        due.is("no way", withTerms("v0;v0;", 0, -9, 1, 9).brief(), 3);
    }

    // K and K are 18 apart at most
    static void promise20EighteenApart(Due due) {
        due.is("itself", withTerms("v0;", 0, -9, 0, 9).brief(), 2);
        due.is("itself, the other way", withTerms("v0;", 0, 9, 0, -9).brief(), 1);
        String below = "v0;v0;v0;d0,2,9;d2,1,9;";
        due.is("18 of -18", withTerms(below, 0, -9, 1, 9).brief(), 2);
        due.is("17 of -18", withTerms(below, 0, -8, 1, 9).brief(), 3);
        String above = "v0;v0;v0;c0,9,2;c2,9,1;";
        due.is("-18 of 18", withTerms(above, 0, 9, 1, -9).brief(), 2);
        due.is("-18 of 17", withTerms("v0;v0;v0;c0,9,2;c2,8,1;", 0, 9, 1, -9).brief(), 3);
        due.is("of 90", withTerms(Told.STEEP, 0, 9, 9, -9).brief(), 2);
        due.is("of -90", withTerms(Told.SUNK, 0, -9, 9, 9).brief(), 3);
    }

    // "and not the other way round as well, or that one has a lower number"
    static void promise20OfTwoThatCoverEachOtherTheLower(Due due) {
        due.is("alike", withTerms("v0;", 0, 3, 0, 3).brief(), 1);
        String tied = "v0;v0;c0,1,1;d1,0,1;";
        due.is("as much", withTerms(tied, 0, 1, 1, 0).brief(), 1);
        due.is("as much, told otherwise", withTerms(tied, 1, 0, 0, 1).brief(), 1);
        due.is("1 more", withTerms(tied, 0, 1, 1, 1).brief(), 2);
        due.is("1 less", withTerms(tied, 0, 1, 1, -1).brief(), 1);
        due.is("three of a round", withTerms(Told.RING, 9, 0, 4, 0, 0, 0).brief(), 1);
        due.is("the last two of a round", withTerms(Told.RING, 9, 0, 4, 1, 0, 1).brief(), 2);
        due.is("0 there, -1 back", withTerms("v0;v0;c0,0,1;d1,0,1;", 0, 0, 1, 0).brief(), 2);
    }

    // one that is COVERED covers as well
    static void promise20CoveredByOneThatIsCovered(Due due) {
        due.is("a line", withTerms("v0;v0;v0;c0,0,1;c1,0,2;", 0, 0, 1, 0, 2, 0).brief(), 4);
        due.is("a line, told otherwise", withTerms("v0;v0;v0;c0,0,1;c1,0,2;", 2, 0, 1, 0, 0, 0).brief(), 1);
        due.is("the sixth covers", withTerms("v0;v0;c0,9,1;", 0, 1, 0, 2, 0, 3, 0, 4, 0, 5, 1, 0).brief(), 32);
    }

    // as things stand
    static void promise20AsThingsStand(Due due) {
        UniverseLevels levels = withTerms("v0;v0;c0,2,1;", 0, 2, 1, 0);
        levels.retract(0);
        due.is("no way any more", levels.brief(), 3);
        levels.undo();
        due.is("again", levels.brief(), 2);
    }

    // "LEVELS .. such as there are"
    static void promise21LevelsThereAre(Due due) {
        UniverseLevels levels = Told.laid("v0;v0;");
        due.isBad("level, no term", v -> levels.below(v, 0), -1, 2, 10);
        levels.term(0, 0);
        due.isBad("level, a term", v -> levels.below(v, 0), -1, 2, 10);
        due.is("0", levels.below(0, 0), 1);
        due.is("1", levels.below(1, 0), 0);
    }

    // "K -9 to 9"
    static void promise21KIsMinus9To9(Due due) {
        UniverseLevels levels = Told.laid("v0;");
        due.isBad("k, no term", k -> levels.below(0, k), -11, -10, 10, 11);
        levels.term(0, 0);
        due.isBad("k, a term", k -> levels.below(0, k), -11, -10, 10, 11);
        for (int k = -9; k <= 9; k++) {
            due.is("k " + k, levels.below(0, k), k >= 0 ? 1 : 0);
        }
    }

    // no TERM: it FOLLOWS of each
    static void promise21OfNoTerm(Due due) {
        UniverseLevels levels = Told.laid("v0;v0;");
        due.is("-9", levels.below(0, -9), 1);
        due.is("9", levels.below(1, 9), 1);
    }

    // "BELOW a LEVEL and K: if it FOLLOWS"
    static void promise21AsMuchAsFollows(Due due) {
        UniverseLevels steep = withTerms(Told.STEEP, 0, 9);
        due.is("9 below 10 less 1", steep.below(1, -1), 1);
        due.is("9 not below 10 less 2", steep.below(1, -2), 0);
        due.is("9 below 20 less 9", steep.below(2, -9), 1);
        due.is("9 not below 10 less 9", steep.below(1, -9), 0);
        UniverseLevels sunk = withTerms(Told.SUNK, 0, -9);
        due.is("-9 below -10 and 1", sunk.below(1, 1), 1);
        due.is("-9 not below -10", sunk.below(1, 0), 0);
        due.is("-9 below -10 and 9", sunk.below(1, 9), 1);
        due.is("-9 not below -20 and 9", sunk.below(2, 9), 0);
    }

    // "of each TERM"
    static void promise21OfEachTerm(Due due) {
        int[] terms = {0, 0, 0, 0, 0, 0, 0, 0, 0, 0, 0, 0};
        due.is("all", withTerms("v0;v0;c0,1,1;", terms).below(1, -1), 1);
        for (int i = 0; i < 6; i++) {
            int[] changed = terms.clone();
            changed[i * 2 + 1] = 1;
            due.is("all but " + i, withTerms("v0;v0;c0,1,1;", changed).below(1, -1), 0);
        }
        due.is("no way from one", withTerms("v0;v0;v0;c0,1,1;", 0, 0, 2, -9).below(1, 9), 0);
    }

    // "WORTH: its VALUE (no TERM: 0"
    static void promise22OfNoTerm0(Due due) {
        due.is("no term", Told.laid("v0;").worth(), 0);
        due.is("no term, but values", Told.laid(Told.STEEP).worth(), 0);
    }

    // "none below 0"
    static void promise22NoneBelow0(Due due) {
        due.is("-9", withTerms("v0;", 0, -9).worth(), 0);
        due.is("-1", withTerms("v0;", 0, -1).worth(), 0);
        due.is("0", withTerms("v0;", 0, 0).worth(), 0);
        due.is("1", withTerms("v0;", 0, 1).worth(), 1);
        due.is("-1 and -9", withTerms("v0;", 0, -1, 0, -9).worth(), 0);
        due.is("8 less 9", withTerms("v0;v0;c0,8,1;", 1, -9).worth(), 0);
        due.is("9 less 9", withTerms("v0;v0;c0,9,1;", 1, -9).worth(), 0);
        due.is("10 less 9", withTerms("v0;v2;c0,9,1;", 1, -9).worth(), 1);
    }

    // "of which the greatest counts": up to 99
    static void promise22TheGreatestCounts(Due due) {
        due.is("90 and 9", withTerms(Told.STEEP, 9, 9).worth(), 99);
        due.is("the first of two", withTerms("v0;v0;c0,3,1;", 1, 1, 0, 3).worth(), 4);
        due.is("the last of two", withTerms("v0;v0;c0,3,1;", 1, 1, 0, 5).worth(), 5);
        due.is("the sixth", withTerms("v0;", 0, 1, 0, 2, 0, 3, 0, 4, 0, 5, 0, 6).worth(), 6);
        UniverseLevels levels = withTerms("v0;", 0, 1, 0, 2, 0, 3, 0, 4, 0, 5, 0, 6);
        levels.term(0, 9);
        due.is("not one for which there was no room", levels.worth(), 6);
    }
}
