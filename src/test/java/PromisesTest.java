/** Each promise by itself, with answers worked out by hand: ordinary calls, the edges, wrong numbers. */
public final class PromisesTest {
    private static final int BAD = UniverseLevels.BAD;
    private static final int NO = UniverseLevels.NO;
    private static final int FULL = UniverseLevels.FULL;
    private static final int NONE = UniverseLevels.NONE;
    private static final Due DUE = new Due();

    public static void main(String[] args) {
        newObject();
        write();
        wipe();
        fault();
        lay();
        layMoreThanThereIsRoomFor();
        level();
        bound();
        reach();
        ask();
        retract();
        rename();
        undo();
        round();
        follows();
        raised();
        top();
        stands();
        term();
        empty();
        brief();
        below();
        worth();
        roots();
        loose();
        keepAndBack();
        count();
        DUE.end();
    }

    private static void newObject() {
        UniverseLevels levels = new UniverseLevels();
        DUE.are("counts at first", Told.counts(levels), 7, 7, 1, 4, 3, 0, 0, 0, 0, 21);
        DUE.are("round at first", Told.round(levels), 0, 5, 6);
        DUE.is("fault at first", levels.fault(), NONE);
        DUE.is("lay at first: the text is empty", levels.lay(), NO);
        DUE.is("levels after that", levels.count(0), 7);
    }

    private static void write() {
        UniverseLevels levels = new UniverseLevels();
        DUE.is("write 31", levels.write(31), BAD);
        DUE.is("write 127", levels.write(127), BAD);
        DUE.is("write -1", levels.write(-1), BAD);
        DUE.is("write most negative", levels.write(Integer.MIN_VALUE), BAD);
        DUE.is("write 32", levels.write(32), 1);
        DUE.is("write 126", levels.write(126), 2);
        for (int i = 3; i <= 200; i++) {
            DUE.is("write the letter " + i, levels.write('v'), i);
        }
        DUE.is("write the letter 201", levels.write('v'), FULL);
        DUE.is("write a wrong letter to a full text", levels.write(31), BAD);
        DUE.is("letters", levels.count(8), 200);
    }

    private static void wipe() {
        UniverseLevels levels = new UniverseLevels();
        DUE.is("wipe an empty text", levels.wipe(), 0);
        Told.put(levels, "v0;v1");
        DUE.is("wipe", levels.wipe(), 5);
        DUE.is("letters after wipe", levels.count(8), 0);
        DUE.is("levels stay", levels.count(0), 7);
    }

    private static void fault() {
        DUE.is("empty", Told.faultOf(""), NONE);
        DUE.is("all kinds", Told.faultOf("v0;v1;v2;v3;c0,9,3;d3,0,9;"), NONE);
        DUE.is("two figures", Told.faultOf("v00;v03;c00,09,01;d1,0,00;"), NONE);
        DUE.is("levels behind bounds", Told.faultOf("v0;v0;c0,0,1;v0;c2,0,1;"), NONE);
        DUE.is("kind 4", Told.faultOf("v0;v4;"), 3);
        DUE.is("kind 10", Told.faultOf("v0;v10;"), 3);
        DUE.is("three figures", Told.faultOf("v0;v003;"), 3);
        DUE.is("no figure", Told.faultOf("v0;v;"), 3);
        DUE.is("no end", Told.faultOf("v0;v0"), 3);
        DUE.is("end is ,", Told.faultOf("v0;v0,"), 3);
        DUE.is("only ;", Told.faultOf(";"), 0);
        DUE.is("space", Told.faultOf("v0; v0;"), 3);
        DUE.is("capital", Told.faultOf("v0;V0;"), 3);
        DUE.is("other letter", Told.faultOf("v0;e0;"), 3);
        DUE.is("sign", Told.faultOf("v0;v0;c0,-1,1;"), 6);
        DUE.is("ten levels", Told.faultOf("v0;".repeat(10)), NONE);
        DUE.is("eleven levels", Told.faultOf("v0;".repeat(11)), 30);
        DUE.is("alike in c", Told.faultOf("v0;v0;c1,0,1;"), 6);
        DUE.is("alike in d", Told.faultOf("v0;v0;d1,1,0;"), 6);
        DUE.is("no such from", Told.faultOf("v0;v0;c2,0,1;"), 6);
        DUE.is("no such to in c", Told.faultOf("v0;v0;c0,0,2;"), 6);
        DUE.is("no such to in d", Told.faultOf("v0;v0;d0,2,0;"), 6);
        DUE.is("level told behind", Told.faultOf("v0;c0,0,1;v0;"), 3);
        DUE.is("10 in c", Told.faultOf("v0;v0;c0,10,1;"), 6);
        DUE.is("10 in d", Told.faultOf("v0;v0;d0,1,10;"), 6);
        DUE.is("two numbers", Told.faultOf("v0;v0;c0,1;"), 6);
        DUE.is("four numbers", Told.faultOf("v0;v0;c0,1,1,1;"), 6);
        DUE.is("two numbers of a level", Told.faultOf("v0,0;"), 0);
        DUE.is("cut off", Told.faultOf("v0;v0;c0,1,1"), 6);
        DUE.is("; between", Told.faultOf("v0;v0;c0;1,1;"), 6);
        DUE.is("the first of two", Told.faultOf("v0;x;y;"), 3);
    }

    private static void lay() {
        UniverseLevels levels = new UniverseLevels();
        levels.term(0, 1);
        levels.keep();
        levels.rename(0, 1);
        Told.put(levels, "v0;v4;");
        DUE.is("lay with a fault", levels.lay(), NO);
        DUE.are("nothing changes", Told.counts(levels), 7, 7, 1, 4, 4, 1, 1, 1, 6, 21);
        Told.put(levels, "v0;v2;v3;c0,1,1;d2,0,3;c1,0,0;c0,9,2;c0,1,2;");
        DUE.is("lay", levels.lay(), 3);
        DUE.are("counts of what is laid", Told.counts(levels), 3, 3, 2, 2, 1, 0, 0, 0, 44, 4);
        DUE.is("undo what was laid", levels.undo(), NO);
        DUE.is("back to what was kept ahead", levels.back(), NO);
        DUE.are("round of the last one refused", Told.round(levels), 2, 0);
        DUE.is("by how much: 8 less 3", levels.round(10), 5);
        DUE.is("lay once more", levels.lay(), 3);
        Told.put(levels, "v0;");
        DUE.is("lay one level", levels.lay(), 0);
        DUE.is("no round of it", levels.round(-1), NONE);
        DUE.is("none refused of it", levels.count(2), 0);
        DUE.is("the text stays", levels.count(8), 3);
    }

    private static void layMoreThanThereIsRoomFor() {
        UniverseLevels levels = Told.laid("v0;v0;" + "c0,0,1;".repeat(17) + "c1,1,0;" + "c1,0,0;");
        DUE.is("bounds taken", levels.count(1), 16);
        DUE.is("refused behind the full row", levels.count(2), 1);
        DUE.is("none back", levels.reach(1, 0), NONE);
    }

    private static void level() {
        UniverseLevels levels = Told.laid("v0;v1;v2;v3;v0;c0,0,1;c1,0,0;c4,2,0;c2,3,3;");
        DUE.is("kind fixed", levels.level(0, 0), 0);
        DUE.is("kind floating", levels.level(1, 0), 1);
        DUE.is("kind strict", levels.level(2, 0), 2);
        DUE.is("kind lax", levels.level(3, 0), 3);
        DUE.is("value 0", levels.level(4, 1), 0);
        DUE.is("value of the one above", levels.level(0, 1), 2);
        DUE.is("value of the same", levels.level(1, 1), 2);
        DUE.is("value of a lax one: 3 less 1", levels.level(3, 1), 2);
        DUE.is("place of the first of 2", levels.level(0, 2), 2);
        DUE.is("place of the second of 2", levels.level(1, 2), 3);
        DUE.is("place of the third of 2", levels.level(3, 2), 4);
        DUE.is("place of the first of 0", levels.level(2, 2), 0);
        DUE.is("place of the second of 0", levels.level(4, 2), 1);
        DUE.is("same as 0", levels.level(0, 3), 3);
        DUE.is("same as 1", levels.level(1, 3), 3);
        DUE.is("same as itself alone", levels.level(3, 3), 8);
        DUE.is("fixed floats not", levels.level(0, 4), 0);
        DUE.is("floating floats", levels.level(1, 4), 1);
        DUE.is("strict floats not", levels.level(2, 4), 0);
        DUE.is("lax floats", levels.level(3, 4), 1);
        DUE.is("what -1", levels.level(0, -1), BAD);
        DUE.is("what 5", levels.level(0, 5), BAD);
        DUE.is("level -1", levels.level(-1, 0), BAD);
        DUE.is("level 5", levels.level(5, 0), BAD);
        UniverseLevels apart = Told.laid("v0;v0;c0,2,1;d1,0,2;");
        DUE.is("tied but not the same", apart.level(0, 3), 1);
        UniverseLevels low = Told.laid("v0;v0;d0,1,9;");
        DUE.is("no value below 0", low.level(1, 1), 0);
    }

    private static void bound() {
        UniverseLevels levels = Told.laid("v0;v0;v2;v3;c0,2,1;c0,1,1;c1,1,2;d1,3,9;d2,0,9;c0,4,2;");
        DUE.is("from", levels.bound(3, 0), 1);
        DUE.is("to", levels.bound(3, 1), 3);
        DUE.is("weight towards fixed", levels.bound(0, 2), 102);
        DUE.is("weight towards strict", levels.bound(2, 2), 102);
        DUE.is("weight towards lax: -9 less 1", levels.bound(3, 2), 90);
        DUE.is("weaker one beside it is needless", levels.bound(1, 3), 1);
        DUE.is("stronger one is not", levels.bound(0, 3), 0);
        DUE.is("beyond the way round it: 5 above 4", levels.bound(5, 3), 0);
        DUE.is("slack: 5 there, -9 back", levels.bound(4, 4), 4);
        DUE.is("slack of one on a shorter way", levels.bound(1, 4), 6);
        DUE.is("no slack: no way back", levels.bound(3, 4), NONE);
        DUE.is("number 6", levels.bound(6, 0), BAD);
        DUE.is("number -1", levels.bound(-1, 0), BAD);
        DUE.is("what 5", levels.bound(0, 5), BAD);
        DUE.is("what -1", levels.bound(0, -1), BAD);
        UniverseLevels twins = Told.laid("v0;v0;c0,2,1;c0,2,1;");
        DUE.is("of twins the first is needless", twins.bound(0, 3), 1);
        DUE.is("of twins the second is needless", twins.bound(1, 3), 1);
        UniverseLevels round = Told.laid("v0;v0;v0;c0,1,1;c1,1,2;c0,2,2;");
        DUE.is("needless by a way of two", round.bound(2, 3), 1);
    }

    private static void reach() {
        UniverseLevels levels = Told.laid("v0;v0;v0;v0;c0,1,1;c1,1,2;c0,1,2;d2,1,9;");
        DUE.is("the longer of two ways", levels.reach(0, 2), 1002);
        DUE.is("below 0", levels.reach(2, 1), 991);
        DUE.is("to itself", levels.reach(3, 3), 1000);
        DUE.is("to itself, there being a round", levels.reach(1, 1), 1000);
        DUE.is("no way", levels.reach(0, 3), NONE);
        DUE.is("no way back", levels.reach(1, 0), NONE);
        DUE.is("from 4", levels.reach(4, 0), BAD);
        DUE.is("to 4", levels.reach(0, 4), BAD);
        DUE.is("from -1", levels.reach(-1, 0), BAD);
        DUE.is("to -1", levels.reach(0, -1), BAD);
    }

    private static void ask() {
        UniverseLevels levels = Told.laid("v0;v1;v2;v3;");
        DUE.is("towards fixed", levels.ask(1, -9, 0), 0);
        DUE.is("towards floating", levels.ask(0, 9, 1), 1);
        DUE.is("round of 1", levels.ask(1, -8, 0), NO);
        DUE.is("bounds stay", levels.count(1), 2);
        DUE.is("towards strict", levels.ask(0, 9, 2), 2);
        DUE.is("towards lax", levels.ask(0, -9, 3), 3);
        DUE.is("fixed weight", levels.bound(0, 2), 91);
        DUE.is("floating weight", levels.bound(1, 2), 109);
        DUE.is("strict weight", levels.bound(2, 2), 110);
        DUE.is("lax weight", levels.bound(3, 2), 90);
        DUE.is("alike", levels.ask(1, 0, 1), BAD);
        DUE.is("no such from", levels.ask(4, 0, 1), BAD);
        DUE.is("no such to", levels.ask(1, 0, 4), BAD);
        DUE.is("from -1", levels.ask(-1, 0, 1), BAD);
        DUE.is("to -1", levels.ask(1, 0, -1), BAD);
        DUE.is("10", levels.ask(0, 10, 1), BAD);
        DUE.is("-10", levels.ask(0, -10, 1), BAD);
        DUE.is("refused once alone", levels.count(2), 1);
        for (int b = 4; b < 16; b++) {
            DUE.is("bound " + b, levels.ask(2, 0, 3), b);
        }
        DUE.is("no room", levels.ask(2, 0, 3), FULL);
        DUE.is("no room, but refused first", levels.ask(1, -8, 0), NO);
        DUE.is("no room, but bad first", levels.ask(1, -8, 1), BAD);
        DUE.is("refused twice", levels.count(2), 2);
    }

    private static void retract() {
        UniverseLevels levels = Told.laid("v0;v0;v0;c0,1,1;c1,2,2;c0,4,2;");
        DUE.is("bad below", levels.retract(-1), BAD);
        DUE.is("bad above", levels.retract(3), BAD);
        DUE.is("the middle one", levels.retract(1), 2);
        DUE.is("the one behind moves up: from", levels.bound(1, 0), 0);
        DUE.is("the one behind moves up: to", levels.bound(1, 1), 2);
        DUE.is("the one behind moves up: weight", levels.bound(1, 2), 104);
        DUE.is("the one ahead stays", levels.bound(0, 2), 101);
        DUE.is("no way any more", levels.reach(1, 2), NONE);
        DUE.is("value of the rest", levels.level(2, 1), 4);
        DUE.is("the last", levels.retract(1), 1);
        DUE.is("the only", levels.retract(0), 0);
        DUE.is("none is left", levels.retract(0), BAD);
    }

    private static void rename() {
        UniverseLevels levels = Told.laid("v0;v3;c0,5,1;");
        DUE.is("as it is", levels.rename(1, 3), NO);
        DUE.is("that is no act", levels.count(6), 0);
        DUE.is("to strict", levels.rename(1, 2), 3);
        DUE.is("kind", levels.level(1, 0), 2);
        DUE.is("bounds stay", levels.bound(0, 2), 104);
        DUE.is("what comes weighs by it", levels.ask(0, 5, 1), 1);
        DUE.is("by 1 more", levels.bound(1, 2), 106);
        DUE.is("kind 4", levels.rename(1, 4), BAD);
        DUE.is("kind -1", levels.rename(1, -1), BAD);
        DUE.is("level 2", levels.rename(2, 0), BAD);
        DUE.is("level -1", levels.rename(-1, 0), BAD);
    }

    private static void undo() {
        UniverseLevels levels = Told.laid("v0;v0;v0;c0,1,1;c1,2,2;c0,4,2;");
        DUE.is("nothing to undo", levels.undo(), NO);
        levels.retract(0);
        levels.rename(2, 3);
        levels.ask(1, 1, 0);
        levels.ask(0, 1, 1);
        levels.term(1, 1);
        DUE.is("refused, so three acts", levels.count(6), 3);
        DUE.is("undo the ask", levels.undo(), 2);
        DUE.is("it is gone", levels.count(1), 2);
        DUE.is("no way back", levels.reach(1, 0), NONE);
        DUE.is("undo the rename", levels.undo(), 1);
        DUE.is("kind is back", levels.level(2, 0), 0);
        DUE.is("undo the retract", levels.undo(), 0);
        DUE.is("its number: from", levels.bound(0, 1), 1);
        DUE.is("its number: weight", levels.bound(0, 2), 101);
        DUE.is("the one behind it", levels.bound(1, 2), 102);
        DUE.is("reach is back", levels.reach(0, 1), 1001);
        DUE.is("refused stays", levels.count(2), 1);
        DUE.are("round stays", Told.round(levels), 1, 0);
        DUE.is("terms stay", levels.count(5), 1);
        for (int i = 0; i < 10; i++) {
            levels.rename(0, i % 2 + 1);
        }
        DUE.is("eight of ten", levels.count(6), 8);
        for (int left = 7; left >= 0; left--) {
            DUE.is("undo to " + left, levels.undo(), left);
        }
        DUE.is("the first two can't be", levels.undo(), NO);
        DUE.is("so the kind is the second one", levels.level(0, 0), 2);
    }

    private static void round() {
        UniverseLevels levels = Told.laid("v0;v0;v0;v0;v0;c0,1,3;c3,1,4;c0,1,2;c2,1,4;c0,2,1;c1,0,4;c0,0,4;");
        for (int i = -1; i <= 10; i++) {
            DUE.is("none was refused " + i, levels.round(i), NONE);
        }
        DUE.is("-2", levels.round(-2), BAD);
        DUE.is("11", levels.round(11), BAD);
        levels.ask(4, 3, 0);
        DUE.are("the lowest second one of three ways", Told.round(levels), 0, 1, 4);
        DUE.is("above", levels.round(10), 5);
        DUE.is("not so many", levels.round(3), NONE);
        DUE.is("not so many either", levels.round(9), NONE);
        DUE.is("-2 still", levels.round(-2), BAD);
        DUE.is("11 still", levels.round(11), BAD);
        levels.retract(4);
        DUE.are("the round stays as it was", Told.round(levels), 0, 1, 4);
        levels.ask(4, -1, 0);
        DUE.are("then the next lowest", Told.round(levels), 0, 2, 4);
        DUE.is("above by 1", levels.round(10), 1);
        levels.ask(0, 2, 4);
        levels.ask(4, 0, 0);
        DUE.are("fewest bounds come first", Told.round(levels), 0, 4);
        levels.ask(3, 2, 4);
        levels.ask(4, 0, 0);
        DUE.are("but greatest length before that", Told.round(levels), 0, 3, 4);
        UniverseLevels third = Told.laid("v0;v0;v0;v0;v0;c4,0,1;c1,0,3;c3,0,0;c1,0,2;c2,0,0;c2,0,1;c0,1,4;");
        DUE.are("the lowest third one, there being a round of 0", Told.round(third), 4, 1, 2, 0);
        UniverseLevels longest = Told.laid("v0;".repeat(10) + "c9,0,8;c8,0,7;c7,0,6;c6,0,5;c5,0,4;c4,0,3;c3,0,2;c2,0,1;"
                + "c1,0,0;c0,1,9;");
        DUE.are("ten levels", Told.round(longest), 9, 8, 7, 6, 5, 4, 3, 2, 1, 0);
        DUE.is("above of ten levels", longest.round(10), 1);
    }

    private static void follows() {
        UniverseLevels levels = Told.laid("v0;v2;v0;c0,4,1;");
        DUE.is("as much", levels.follows(0, 5, 1), 1);
        DUE.is("more", levels.follows(0, 6, 1), 0);
        DUE.is("less", levels.follows(0, -9, 1), 1);
        DUE.is("back", levels.follows(1, -9, 0), 0);
        DUE.is("no way", levels.follows(0, -9, 2), 0);
        DUE.is("itself 0", levels.follows(2, 0, 2), 1);
        DUE.is("itself 1", levels.follows(2, 1, 2), 0);
        DUE.is("10", levels.follows(0, 10, 1), BAD);
        DUE.is("-10", levels.follows(0, -10, 1), BAD);
        DUE.is("from 3", levels.follows(3, 0, 1), BAD);
        DUE.is("to 3", levels.follows(1, 0, 3), BAD);
        DUE.is("from -1", levels.follows(-1, 0, 1), BAD);
        DUE.is("to -1", levels.follows(1, 0, -1), BAD);
    }

    private static void raised() {
        UniverseLevels levels = Told.laid("v0;v0;v0;c0,3,1;c2,5,1;");
        DUE.is("not yet more", levels.raised(0, 2, 1), 5);
        DUE.is("more", levels.raised(0, 3, 1), 6);
        DUE.is("the greatest", levels.raised(0, 99, 1), 102);
        DUE.is("itself", levels.raised(1, 7, 1), 7);
        DUE.is("itself by less than it is", levels.raised(1, 1, 1), 5);
        DUE.is("not back", levels.raised(1, 99, 0), 0);
        DUE.is("100", levels.raised(0, 100, 1), BAD);
        DUE.is("-1", levels.raised(0, -1, 1), BAD);
        DUE.is("from 3", levels.raised(3, 0, 1), BAD);
        DUE.is("of 3", levels.raised(1, 0, 3), BAD);
        DUE.is("from -1", levels.raised(-1, 0, 1), BAD);
        DUE.is("of -1", levels.raised(1, 0, -1), BAD);
    }

    private static void top() {
        UniverseLevels levels = Told.laid("v0;v0;v0;c0,3,1;d2,1,5;");
        DUE.is("below by 3", levels.top(1, 7, 0), 1004);
        DUE.is("just possible", levels.top(1, 3, 0), 1000);
        DUE.is("too low", levels.top(1, 2, 0), NONE);
        DUE.is("above it by 5", levels.top(1, 99, 2), 1104);
        DUE.is("itself", levels.top(1, 9, 1), 1009);
        DUE.is("itself too low", levels.top(1, 2, 1), NONE);
        DUE.is("no way", levels.top(0, 9, 1), NONE);
        DUE.is("100", levels.top(1, 100, 0), BAD);
        DUE.is("-1", levels.top(1, -1, 0), BAD);
        DUE.is("from 3", levels.top(3, 0, 1), BAD);
        DUE.is("of 3", levels.top(1, 0, 3), BAD);
        DUE.is("from -1", levels.top(-1, 0, 1), BAD);
        DUE.is("of -1", levels.top(1, 0, -1), BAD);
    }

    private static void stands() {
        UniverseLevels levels = Told.laid("v0;v0;v0;v0;c0,1,1;c1,1,3;c0,1,2;c2,1,3;c0,1,3;d0,3,9;");
        DUE.are("none needed", Told.against(levels, 3, -2, 0), 0, NONE, NONE, NONE);
        DUE.are("two ways of 2", Told.against(levels, 3, -1, 0), 2, 0, 2, NONE);
        DUE.are("and one of 1", Told.against(levels, 3, 0, 0), 3, 0, 2, 4);
        DUE.are("that of -9 leaves room for 9", Told.against(levels, 3, 9, 0), 3, 0, 2, 4);
        levels.ask(0, 1, 3);
        DUE.are("four are too many", Told.against(levels, 3, 0, 0), NONE, NONE, NONE, NONE);
        DUE.is("nothing is taken back", levels.count(1), 7);
        DUE.is("nor refused", levels.count(2), 0);
        DUE.is("alike", levels.stands(1, 0, 1, -1), BAD);
        DUE.is("10", levels.stands(3, 10, 0, -1), BAD);
        DUE.is("-10", levels.stands(3, -10, 0, -1), BAD);
        DUE.is("from 4", levels.stands(4, 0, 0, -1), BAD);
        DUE.is("to 4", levels.stands(0, 0, 4, -1), BAD);
        DUE.is("from -1", levels.stands(-1, 0, 0, -1), BAD);
        DUE.is("to -1", levels.stands(0, 0, -1, -1), BAD);
        DUE.is("i -2", levels.stands(3, 0, 0, -2), BAD);
        DUE.is("i 3", levels.stands(3, 0, 0, 3), BAD);
        UniverseLevels shared = Told.laid("v0;v0;v2;c0,1,1;c1,0,2;");
        DUE.are("the lower of two that do", Told.against(shared, 2, -1, 0), 1, 0, NONE, NONE);
        UniverseLevels last = Told.laid("v0;v0;v0;" + "c0,0,1;".repeat(13) + "c1,0,2;".repeat(3));
        DUE.are("the very last choice of three", Told.against(last, 2, 1, 0), 3, 13, 14, 15);
        UniverseLevels first = Told.laid("v0;v0;v0;" + "c0,0,1;".repeat(3) + "c1,0,2;".repeat(13));
        DUE.are("the very first choice of three", Told.against(first, 2, 1, 0), 3, 0, 1, 2);
        UniverseLevels strict = Told.laid("v2;v0;c0,0,1;");
        DUE.are("a strict one weighs 1 more", Told.against(strict, 1, 0, 0), 1, 0, NONE, NONE);
        DUE.are("so less is let in", Told.against(strict, 1, -1, 0), 0, NONE, NONE, NONE);
    }

    private static void term() {
        UniverseLevels levels = Told.laid("v0;v0;");
        DUE.is("10", levels.term(0, 10), BAD);
        DUE.is("-10", levels.term(0, -10), BAD);
        DUE.is("level 2", levels.term(2, 0), BAD);
        DUE.is("level -1", levels.term(-1, 0), BAD);
        for (int i = 1; i <= 6; i++) {
            DUE.is("term " + i, levels.term(1, i == 1 ? -9 : 9), i);
        }
        DUE.is("the seventh", levels.term(0, 0), FULL);
        DUE.is("the seventh, bad", levels.term(0, 10), BAD);
        DUE.is("six", levels.count(5), 6);
    }

    private static void empty() {
        UniverseLevels levels = Told.laid("v0;v0;");
        DUE.is("none", levels.empty(), 0);
        levels.term(0, 1);
        levels.term(0, 2);
        DUE.is("two", levels.empty(), 2);
        DUE.is("none is left", levels.count(5), 0);
        DUE.is("one anew", levels.term(0, 1), 1);
    }

    private static void brief() {
        UniverseLevels levels = Told.laid("v0;v0;v0;c0,2,1;c1,0,2;c2,0,1;");
        DUE.is("no term", levels.brief(), 0);
        levels.term(0, 2);
        DUE.is("one", levels.brief(), 1);
        levels.term(1, 0);
        DUE.is("covered by the second", levels.brief(), 2);
        levels.term(2, 0);
        DUE.is("of two that are the same the first", levels.brief(), 2);
        levels.term(0, 3);
        DUE.is("one that is more", levels.brief(), 10);
        levels.term(0, 3);
        DUE.is("the very same once more", levels.brief(), 10);
        levels.term(1, 1);
        DUE.is("one that covers all", levels.brief(), 32);
        UniverseLevels wide = Told.laid("v0;v0;v0;d0,2,9;d2,1,9;");
        wide.term(0, -9);
        wide.term(1, 9);
        DUE.is("18 apart", wide.brief(), 2);
        wide.empty();
        wide.term(0, -8);
        wide.term(1, 9);
        DUE.is("17 apart", wide.brief(), 3);
    }

    private static void below() {
        UniverseLevels levels = Told.laid("v0;v0;v0;c0,2,1;c2,0,1;");
        DUE.is("no term", levels.below(0, -9), 1);
        levels.term(0, 3);
        DUE.is("just", levels.below(1, 1), 1);
        DUE.is("not", levels.below(1, 0), 0);
        DUE.is("itself", levels.below(0, 3), 1);
        levels.term(2, 2);
        DUE.is("not each", levels.below(1, 1), 0);
        DUE.is("each", levels.below(1, 2), 1);
        DUE.is("no way", levels.below(0, 9), 0);
        DUE.is("10", levels.below(1, 10), BAD);
        DUE.is("-10", levels.below(1, -10), BAD);
        DUE.is("level 3", levels.below(3, 0), BAD);
        DUE.is("level -1", levels.below(-1, 0), BAD);
    }

    private static void worth() {
        UniverseLevels levels = Told.laid("v0;v0;c0,2,1;");
        DUE.is("no term", levels.worth(), 0);
        levels.term(1, -9);
        DUE.is("none below 0", levels.worth(), 0);
        levels.term(1, 3);
        levels.term(0, 4);
        DUE.is("the greatest", levels.worth(), 5);
        levels.retract(0);
        DUE.is("as things stand", levels.worth(), 4);
    }

    private static void roots() {
        UniverseLevels levels = Told.laid("v0;v2;v1;v3;v0;v1;c0,2,2;c1,0,2;d2,3,0;c4,9,3;");
        DUE.is("two roots, none covered", levels.roots(2), 3);
        DUE.is("over a floating one, and its own", levels.roots(3), 19);
        DUE.is("no root", levels.roots(5), 0);
        DUE.is("fixed", levels.roots(0), NO);
        DUE.is("strict", levels.roots(1), NO);
        DUE.is("level 6", levels.roots(6), BAD);
        DUE.is("level -1", levels.roots(-1), BAD);
        levels.ask(1, -3, 0);
        DUE.is("1 gives -2 over 0, but 0 itself: both", levels.roots(2), 3);
        levels.ask(0, 0, 1);
        DUE.is("0 and 1 is below 1, but 0 and 2 counts: both", levels.roots(2), 3);
        levels.ask(0, 1, 1);
        DUE.is("0 and 2 is below 1: that one", levels.roots(2), 2);
        levels.rename(0, 1);
        DUE.is("one root less", levels.roots(2), 2);
        UniverseLevels covered = Told.laid("v0;v0;v1;c0,1,1;c1,1,2;");
        DUE.is("covered by the one between", covered.roots(2), 2);
        covered.ask(1, -1, 0);
        DUE.is("of two that are the same the lower", covered.roots(2), 1);
    }

    private static void loose() {
        UniverseLevels levels = Told.laid("v1;v1;v3;v0;v3;v2;c0,1,1;c2,1,3;c3,1,4;");
        DUE.is("among floating ones", levels.loose(0, 0), 1);
        DUE.is("among floating ones, above", levels.loose(1, 0), 1);
        DUE.is("a way to a fixed one", levels.loose(2, 0), 0);
        DUE.is("a root", levels.loose(4, 0), 0);
        DUE.is("not pinned", levels.loose(4, 1), 0);
        levels.ask(4, 0, 3);
        DUE.is("pinned: 0 there and 0 back", levels.loose(4, 1), 1);
        levels.ask(3, -1, 2);
        DUE.is("not pinned: -2 there, 1 back", levels.loose(2, 1), 0);
        levels.ask(3, 0, 2);
        DUE.is("pinned by a number: -1 there, 1 back", levels.loose(2, 1), 1);
        DUE.is("fixed", levels.loose(3, 0), NO);
        DUE.is("strict", levels.loose(5, 1), NO);
        DUE.is("what 2", levels.loose(0, 2), BAD);
        DUE.is("what -1", levels.loose(0, -1), BAD);
        DUE.is("what 2 of a fixed one", levels.loose(3, 2), BAD);
        DUE.is("level 6", levels.loose(6, 0), BAD);
        DUE.is("level -1", levels.loose(-1, 0), BAD);
        UniverseLevels near = Told.laid("v0;v1;c0,2,1;d1,0,3;");
        DUE.is("one short of being pinned", near.loose(1, 1), 0);
    }

    private static void keepAndBack() {
        UniverseLevels levels = Told.laid("v0;v0;v0;c0,1,1;c1,2,2;");
        DUE.is("nothing kept", levels.back(), NO);
        DUE.is("keep", levels.keep(), 1);
        levels.retract(0);
        levels.rename(2, 3);
        DUE.is("keep again", levels.keep(), 2);
        DUE.is("kept", levels.count(7), 2);
        DUE.is("a third time", levels.keep(), FULL);
        DUE.is("keeping leaves what can be undone", levels.count(6), 2);
        levels.ask(2, 0, 1);
        levels.rename(0, 2);
        levels.term(0, 1);
        DUE.is("back", levels.back(), 1);
        DUE.is("bounds as kept", levels.count(1), 1);
        DUE.is("kinds as kept", levels.level(0, 0), 0);
        DUE.is("kinds as kept, the other", levels.level(2, 0), 3);
        DUE.is("nothing can be undone", levels.undo(), NO);
        DUE.is("refused stays", levels.count(2), 1);
        DUE.is("terms stay", levels.count(5), 1);
        DUE.are("round stays", Told.round(levels), 1, 2);
        levels.retract(0);
        DUE.is("back to the first", levels.back(), 0);
        DUE.is("its bounds", levels.count(1), 2);
        DUE.is("its reach", levels.reach(0, 2), 1003);
        DUE.is("its kinds", levels.level(2, 0), 0);
        DUE.is("no more", levels.back(), NO);
        DUE.is("room again", levels.keep(), 1);
        levels.retract(1);
        levels.undo();
        DUE.is("undoing leaves what is kept", levels.count(7), 1);
    }

    private static void count() {
        UniverseLevels levels = Told.laid("v0;v1;v3;v2;c0,9,1;c1,9,2;d2,0,9;c1,0,0;");
        levels.term(0, 0);
        levels.rename(3, 3);
        levels.keep();
        DUE.are("counts", Told.counts(levels), 4, 2, 2, 17, 3, 1, 1, 1, 40, 3);
        DUE.is("10", levels.count(10), BAD);
        DUE.is("-1", levels.count(-1), BAD);
        levels.ask(1, -9, 0);
        DUE.is("pairs each way", levels.count(9), 4);
    }
}
