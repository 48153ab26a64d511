/** The sentences about the house that name a bound: levels, loads, open faces, melts, weeks, dust. */
public final class HouseBoundsTest {
    private static final int SHELF = 10;
    private static final int CLEAR = 28;

    public static void main(String[] args) {
        sixLevelsAtMost();
        sixOfWhichAShelfWouldBreak();
        goneBlocksStayGone();
        aboveTwiceItsWeightAndNotBefore();
        aShelfInTheMiddle();
        shelvesAreAskedFromTheLowest();
        eachColumnForItself();
        nothingIsOpenAmongOthers();
        aCoverIsForTheTopmost();
        dustAndCoverOfTen();
        theQuotientIsCut();
        notMoreThanItsWeight();
        allMeltAtOnce();
        eachWeekAtItsWarmth();
        theLastWeeks();
        lookingAheadChangesNothing();
        lastsToTheLastWeek();
        bestOnEachWall();
        bestNotAboveTen();
        bestAtTheCorners();
        bestCountsWhatNoWallSaves();
        Due.end();
    }

    private static IceHouse with(int column, int... thicks) {
        IceHouse x = new IceHouse();
        for (int thick : thicks) {
            x.put(Due.block(x, thick, false), column);
        }
        return x;
    }

    private static void sixLevelsAtMost() {
        for (int column = 0; column < 16; column++) {
            IceHouse x = with(column, CLEAR, CLEAR, CLEAR, CLEAR, CLEAR);
            int sixth = Due.block(x, CLEAR, false);
            int seventh = Due.block(x, CLEAR, false);
            Due.is("the sixth", 5, x.put(sixth, column));
            Due.is("the seventh", Due.STATE, x.put(seventh, column));
            Due.is("it is still on the shore", 0, x.about(seventh, 2));
            Due.is("at level 5", sixth, x.at(column, 5));
            Due.is("load of the lowest", 5 * 560, x.about(0, 5));
            Due.is("none is beside it", Due.NONE, x.at((column + 1) % 16, 0));
            Due.is("the sixth is thrown out", sixth, x.take(column));
            Due.is("then there is room", 5, x.put(seventh, column));
            Due.is("but not for one more", Due.STATE, x.put(Due.block(x, CLEAR, false), column));
        }
    }

    private static void sixOfWhichAShelfWouldBreak() {
        IceHouse x = with(4, CLEAR, CLEAR, CLEAR, SHELF, SHELF, SHELF);
        int heavy = Due.block(x, CLEAR, false);
        x.put(heavy, 8);
        Due.is("400 is borne", 5, x.about(5, 4));
        Due.is("6 are there, though one would break", Due.STATE, x.move(8, 4));
        int more = Due.block(x, CLEAR, false);
        Due.is("the same from the shore", Due.STATE, x.put(more, 4));
        Due.is("BROKEN", 0, x.ledger(2));
        x.take(4);
        Due.is("with 5 it is taken", heavy, x.move(8, 4));
        Due.is("760 and 560 break both shelves", 3, x.about(heavy, 4));
        Due.is("BROKEN", 400, x.ledger(2));
    }

    private static void goneBlocksStayGone() {
        IceHouse x = new IceHouse();
        int melted = Due.block(x, SHELF, true);
        x.put(melted, 0);
        for (int week = 0; week < 10; week++) {
            x.warmth(week, 40);
        }
        x.weeks(10);
        int[] gone = {2, 0, 2, -1, -1, 0, 0};
        for (int what = 0; what <= 6; what++) {
            Due.is("melted away: " + what, gone[what], x.about(melted, what));
        }
        Due.is("it is not put again", Due.STATE, x.put(melted, 1));
        Due.is("MELTED is its weight, not more", 200, x.ledger(1));
        Due.is("an empty column", Due.NONE, x.take(0));
    }

    /** A shelf of 199 behind a week, under 398 and under 399. */
    private static void aboveTwiceItsWeightAndNotBefore() {
        IceHouse bears = with(5, SHELF);
        int load = Due.block(bears, 20, true);
        bears.put(load, 5);
        Calls.run(bears, "warmth(0, 4) cover(5, 10)");
        Due.is("398 on 199", 199 + 398, bears.weeks(1));
        Due.is("none breaks", 0, bears.ledger(2));
        Due.is("level 1", 1, bears.about(load, 4));
        IceHouse breaks = with(5, SHELF, 20);
        breaks.warmth(0, 4);
        Due.is("399 on 199, ahead", 399, breaks.after(1));
        Due.is("399 on 199", 399, breaks.weeks(1));
        Due.is("BROKEN", 199, breaks.ledger(2));
        Due.is("a level lower", 0, breaks.about(1, 4));
        IceHouse put = with(5, SHELF, SHELF);
        int third = Due.block(put, SHELF, false);
        Due.is("400 on 200 from the shore", 2, put.put(third, 5));
        IceHouse moved = with(5, SHELF);
        moved.put(Due.block(moved, 21, false), 6);
        moved.move(6, 5);
        Due.is("420 on 200 from a column", 200, moved.ledger(2));
    }

    private static void aShelfInTheMiddle() {
        IceHouse x = with(7, CLEAR, SHELF, SHELF);
        int heavy = Due.block(x, CLEAR, false);
        Due.is("560 breaks both, the clear one bears all", 1, x.put(heavy, 7));
        Due.is("the clear one", 0, x.at(7, 0));
        Due.is("the heavy one", heavy, x.at(7, 1));
        Due.is("none above", Due.NONE, x.at(7, 2));
        Due.is("load", 560, x.about(0, 5));
        Due.is("blocks in the house", 2, x.count(2));
    }

    /** From the top on, the upper one would break first and save the lower one. */
    private static void shelvesAreAskedFromTheLowest() {
        IceHouse x = with(2, 11, SHELF);
        int load = Due.block(x, 21, false);
        Due.is("620 breaks 220, then 420 breaks 200", 0, x.put(load, 2));
        Due.is("BROKEN", 420, x.ledger(2));
        Due.is("the lower one", 2, x.about(0, 2));
        Due.is("the upper one", 2, x.about(1, 2));
        IceHouse y = with(2, 11, SHELF);
        int lighter = Due.block(y, 12, false);
        Due.is("440 is borne by 220", 2, y.put(lighter, 2));
    }

    private static void eachColumnForItself() {
        IceHouse x = with(0, SHELF, 20);
        x.put(Due.block(x, SHELF, false), 15);
        x.put(Due.block(x, 20, false), 15);
        Calls.run(x, "warmth(0, 40) cover(0, 10) cover(15, 10)");
        Due.is("both break in one week", 2 * 388, x.weeks(1));
        Due.is("BROKEN", 2 * 188, x.ledger(2));
        Due.is("column 0", 1, x.at(0, 0));
        Due.is("column 15", 3, x.at(15, 0));
    }

    private static void nothingIsOpenAmongOthers() {
        IceHouse x = with(5, CLEAR, CLEAR);
        x.warmth(0, 40);
        int[] beside = {1, 4, 6, 9};
        int[] melt = {9, 6, 3, 0};
        for (int i = 0; i < 4; i++) {
            x.put(Due.block(x, CLEAR, false), beside[i]);
            Due.is("with " + (i + 1) + " beside it", melt[i], x.about(0, 6));
            Due.is("a level above", 15, x.about(1, 6));
        }
        x.put(Due.block(x, CLEAR, false), 10);
        Due.is("one across the corner is not beside it", 15, x.about(1, 6));
        x.move(10, 6);
        Due.is("one beside it on the same level is", 12, x.about(1, 6));
    }

    private static void aCoverIsForTheTopmost() {
        IceHouse x = with(5, CLEAR, CLEAR);
        Calls.run(x, "warmth(0, 40) cover(5, 10)");
        Due.is("below", 12, x.about(0, 6));
        Due.is("topmost", 12, x.about(1, 6));
        x.cover(6, 10);
        Due.is("a cover beside it", 12, x.about(1, 6));
        x.cover(5, 0);
        Due.is("no cover", 15, x.about(1, 6));
        Due.is("below", 12, x.about(0, 6));
        x.take(5);
        Due.is("now it is topmost", 15, x.about(0, 6));
        IceHouse y = with(4, CLEAR, CLEAR);
        Calls.run(y, "warmth(0, 40) dust(2, 7)");
        Due.is("33 tenths below, nothing from above", 9, y.about(0, 6));
        Due.is("43 tenths at the top", 12, y.about(1, 6));
        y.cover(4, 9);
        Due.is("34 tenths at the top", 10, y.about(1, 6));
        y.cover(4, 10);
        Due.is("33 tenths at the top", 9, y.about(1, 6));
    }

    private static void dustAndCoverOfTen() {
        IceHouse x = with(0, CLEAR);
        x.warmth(0, 40);
        int[] wallOf = {15, 12, 9, 6};
        Due.is("all open", wallOf[0], x.melts());
        x.dust(0, 10);
        Due.is("a wall shut", wallOf[1], x.melts());
        x.dust(2, 10);
        Due.is("both walls shut", wallOf[2], x.melts());
        x.cover(0, 10);
        Due.is("the top shut", wallOf[3], x.melts());
        Calls.run(x, "dust(1, 10) dust(3, 10)");
        Due.is("other walls do nothing", wallOf[3], x.melts());
        Calls.run(x, "dust(0, 0) dust(2, 0) cover(0, 0) warmth(0, 0)");
        Due.is("no warmth", 0, x.melts());
    }

    /** 38 times 42 tenths times 3 is 4788, 12 less than twelve times 400. */
    private static void theQuotientIsCut() {
        IceHouse x = with(4, CLEAR);
        Calls.run(x, "warmth(0, 38) dust(2, 8)");
        Due.is("4788 by 400", 11, x.about(0, 6));
        Calls.run(x, "warmth(0, 40) dust(2, 10)");
        Due.is("4800 by 400", 12, x.about(0, 6));
        Calls.run(x, "warmth(0, 2) dust(2, 0)");
        Due.is("300 by 400", 0, x.about(0, 6));
        Due.is("nothing melts", 560, x.weeks(1));
    }

    private static void notMoreThanItsWeight() {
        IceHouse x = with(5, SHELF);
        for (int week = 0; week < 20; week++) {
            x.warmth(week, 40);
        }
        Due.is("200 less 195", 5, x.weeks(13));
        Due.is("5, not 15", 5, x.melts());
        Due.is("of the block", 5, x.about(0, 6));
        Due.is("best is told so too", 5, x.best(40, 0));
        Due.is("nothing is left", 0, x.weeks(1));
        Due.is("MELTED", 200, x.ledger(1));
        Due.is("in the house", 0, x.ledger(5));
    }

    /** The block that goes in a week still shelters the one beside it that week, and the one below. */
    private static void allMeltAtOnce() {
        IceHouse x = new IceHouse();
        for (int week = 0; week < 20; week++) {
            x.warmth(week, 40);
        }
        int goes = Due.block(x, SHELF, true);
        int stays = Due.block(x, CLEAR, false);
        x.put(goes, 5);
        x.put(stays, 6);
        Due.is("8 weeks of 24 and 12", 8 + 464, x.weeks(8));
        Due.is("8 goes, 12 melts", 452, x.weeks(1));
        Due.is("then 15 melts", 437, x.weeks(1));
        IceHouse y = new IceHouse();
        for (int week = 0; week < 20; week++) {
            y.warmth(week, 40);
        }
        int below = Due.block(y, CLEAR, false);
        y.put(below, 5);
        y.put(Due.block(y, SHELF, true), 5);
        Due.is("6 weeks of 30 and 12", 20 + 488, y.weeks(6));
        Due.is("20 goes, 12 melts", 476, y.weeks(1));
        Due.is("then its top is open", 461, y.weeks(1));
    }

    private static void eachWeekAtItsWarmth() {
        IceHouse x = with(5, CLEAR);
        Calls.run(x, "warmth(0, 40) warmth(1, 0) warmth(2, 20) warmth(19, 40)");
        Due.is("after 1", 545, x.after(1));
        Due.is("after 2", 545, x.after(2));
        Due.is("after 3", 538, x.after(3));
        Due.is("after 19", 538 - 16 * 3, x.after(19));
        Due.is("after 20", 538 - 16 * 3 - 15, x.after(20));
        Due.is("20 weeks at once", 475, x.weeks(20));
        Due.is("week 20", 20, x.count(5));
        x.warmth(19, 0);
        Due.is("what is past is past", 475, x.ledger(5));
    }

    /** Up to week 100, and behind week 99 it is 10, for all that looks at this week or ahead. */
    private static void theLastWeeks() {
        IceHouse x = with(5, CLEAR);
        for (int week = 0; week < 98; week++) {
            x.warmth(week, 0);
        }
        Calls.run(x, "weeks(20) weeks(20) weeks(20) weeks(20) weeks(18) warmth(98, 20) warmth(99, 40)");
        Due.is("week 98", 98, x.count(5));
        Due.is("3 more are too many", Due.FULL, x.weeks(3));
        int[] ahead = {560, 553, 538, 535, 532};
        for (int n = 0; n < ahead.length; n++) {
            Due.is("after " + n, ahead[n], x.after(n));
            Due.tell(x, 0, 0, 0, 0, 0, ahead[n]);
            Due.is("check " + n, 0, x.check(n));
        }
        Due.is("lasts", 3, x.lasts(538));
        Due.is("week 98 at 20", 7, x.melts());
        x.weeks(1);
        Due.is("week 99 at 40", 15, x.melts());
        Due.is("week 100 is the last", 538, x.weeks(1));
        Due.is("week 100 at 10", 3, x.melts());
        Due.is("of the block", 3, x.about(0, 6));
        Due.is("best", 3, x.best(40, 0));
        Due.is("no more", Due.FULL, x.weeks(1));
        Due.is("but ahead", 538 - 60, x.after(20));
    }

    private static void lookingAheadChangesNothing() {
        IceHouse x = with(5, SHELF, 20);
        Calls.run(x, "warmth(0, 40) cover(5, 10)");
        int[] ledger = new int[7];
        for (int what = 0; what <= 6; what++) {
            ledger[what] = x.ledger(what);
        }
        Calls.run(x, "after(20) lasts(1) lasts(600) tell(1) check(20) best(40, 0) melts()");
        for (int what = 0; what <= 6; what++) {
            Due.is("ledger " + what, ledger[what], x.ledger(what));
        }
        Due.is("the week", 0, x.count(5));
        Due.is("the shelf", 200, x.about(0, 1));
        Due.is("its load", 400, x.about(0, 5));
        Due.is("the level above it", 1, x.about(1, 4));
        Due.is("dust", 0, x.dust(0, 0));
    }

    private static void lastsToTheLastWeek() {
        IceHouse x = with(5, SHELF);
        Due.is("behind 20: 140", 140, x.after(20));
        Due.is("behind 19: 143", 143, x.after(19));
        Due.is("below 143 behind 20", 20, x.lasts(143));
        Due.is("below 144 behind 19", 19, x.lasts(144));
        Due.is("below 141 behind 20", 20, x.lasts(141));
        Due.is("140 is not below 140", Due.NONE, x.lasts(140));
        Due.is("most", 0, x.lasts(100000));
        Due.is("least", Due.NONE, x.lasts(1));
        x.take(5);
        Due.is("nothing is below 1", 0, x.lasts(1));
    }

    private static void bestIs(IceHouse x, int n, int... want) {
        for (int what = 0; what <= 4; what++) {
            Due.is("best(" + n + ", " + what + ")", want[what], x.best(n, what));
        }
    }

    /** One clear block at each wall. */
    private static IceHouse oneAtEachWall(int warmth) {
        IceHouse x = with(1, CLEAR);
        x.put(Due.block(x, CLEAR, false), 13);
        x.put(Due.block(x, CLEAR, false), 4);
        x.put(Due.block(x, CLEAR, false), 7);
        x.warmth(0, warmth);
        return x;
    }

    /** 1, 4 and 7 on a wall save 1, 2 and 3: the least together, then the least on walls 0, 1, 2. */
    private static void bestOnEachWall() {
        IceHouse x = oneAtEachWall(40);
        bestIs(x, 0, 60, 0, 0, 0, 0);
        bestIs(x, 1, 59, 0, 0, 0, 1);
        bestIs(x, 2, 58, 0, 0, 1, 1);
        bestIs(x, 3, 57, 0, 1, 1, 1);
        bestIs(x, 4, 56, 1, 1, 1, 1);
        bestIs(x, 6, 56, 1, 1, 1, 1);
        bestIs(x, 7, 55, 1, 1, 1, 4);
        bestIs(x, 24, 50, 1, 7, 7, 7);
        bestIs(x, 25, 49, 4, 7, 7, 7);
        bestIs(x, 27, 49, 4, 7, 7, 7);
        bestIs(x, 28, 48, 7, 7, 7, 7);
        bestIs(x, 40, 48, 7, 7, 7, 7);
    }

    /** 2, 6 and 10 on a wall save 1, 2 and 3. */
    private static void bestNotAboveTen() {
        IceHouse x = oneAtEachWall(33);
        bestIs(x, 40, 36, 10, 10, 10, 10);
        bestIs(x, 39, 37, 6, 10, 10, 10);
        bestIs(x, 36, 37, 6, 10, 10, 10);
        bestIs(x, 35, 38, 2, 10, 10, 10);
        bestIs(x, 31, 39, 2, 6, 10, 10);
        bestIs(x, 10, 44, 2, 2, 2, 2);
        bestIs(x, 1, 48, 0, 0, 0, 0);
        Calls.run(x, "take(13) take(4) take(7)");
        bestIs(x, 40, 9, 10, 0, 0, 0);
    }

    /** 14 off the 40 tenths under a cover save the second; one wall has 10 of them at most. */
    private static void bestAtTheCorners() {
        int[] corners = {0, 3, 12, 15};
        int[][] want = {{1, 4, 0, 10, 0}, {1, 4, 0, 0, 10}, {1, 0, 4, 10, 0}, {1, 0, 4, 0, 10}};
        for (int i = 0; i < 4; i++) {
            IceHouse x = with(corners[i], CLEAR);
            x.cover(corners[i], 10);
            bestIs(x, 40, want[i]);
            bestIs(x, 14, want[i]);
            bestIs(x, 13, 2, 0, 0, i % 2 == 0 ? 1 : 0, i % 2 == 0 ? 0 : 1);
            bestIs(x, 0, 3, 0, 0, 0, 0);
        }
    }

    private static void bestCountsWhatNoWallSaves() {
        for (int column : new int[] {5, 6, 9, 10}) {
            IceHouse x = with(column, CLEAR, CLEAR);
            x.warmth(0, 40);
            bestIs(x, 40, 27, 0, 0, 0, 0);
            x.take(column);
            bestIs(x, 40, 15, 0, 0, 0, 0);
            x.cover(column, 7);
            Due.is("43 tenths, none from a wall", 12, x.best(40, 0));
            x.cover(column, 0);
            x.put(Due.block(x, CLEAR, false), 0);
            Due.is("both, and the corner's 20", 15 + 9, x.best(40, 0));
        }
        IceHouse empty = new IceHouse();
        bestIs(empty, 0, 0, 0, 0, 0, 0);
        bestIs(empty, 40, 0, 0, 0, 0, 0);
    }
}
