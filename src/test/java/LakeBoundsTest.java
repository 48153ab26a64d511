/** The sentences about the lake that name a bound: 'at most', 'not below', 'or more', 'beside', 'ever'. */
public final class LakeBoundsTest {
    public static void main(String[] args) {
        theWholeRoot();
        sixtyAtMost();
        thirtySnowAtMost();
        frostCountsAllThatBear();
        milkedOnlyUnderSnow();
        openWaterHasNoSnowAndNoMilk();
        thawNotBelowNothing();
        noWayRoundARowsEnd();
        noWayAcrossACorner();
        theHorseGoesAllFourWays();
        fortyNineSquares();
        eachCellOfASquareOfEight();
        theSquareItselfBearsNothing();
        aHorseOfTenBesideTheSquare();
        forty7AndForty8();
        milkedCellsOfASquare();
        milkGoesAheadOfThick();
        theWeightIsOfTheFourCells();
        sixtyBlocksEver();
        seasonOfCellsInCommon();
        seasonSoThatTheHorseComesHome();
        Due.end();
    }

    private static void theWholeRoot() {
        for (int f = 1; f <= 40; f++) {
            int root = Due.frozen(f).cell(0, 0);
            Due.yes("frost " + f + " not above its root", root * root <= 20 * f);
            Due.yes("frost " + f + " not below its root", (root + 1) * (root + 1) > 20 * f);
        }
        Due.is("the root of 80", 8, Due.frozen(4).cell(63, 0));
        Due.is("the root of 100", 10, Due.frozen(5).cell(63, 0));
        Due.is("the root of 120", 10, Due.frozen(6).cell(63, 0));
        Due.is("the root of 400", 20, Due.frozen(20).cell(63, 0));
    }

    private static void sixtyAtMost() {
        IceHouse x = Due.frozen(40, 40, 40, 40, 40);
        Due.is("60 at most", 60, x.cell(0, 0));
        x.thaw(1);
        x.frost(5);
        Due.is("the root of 3581", 59, x.cell(0, 0));
        x.frost(6);
        Due.is("the root of 3601", 60, x.cell(0, 0));
        Due.is("frost at 60", 64, x.frost(40));
        Due.is("still 60", 60, x.cell(0, 0));
    }

    private static void thirtySnowAtMost() {
        IceHouse x = Due.frozen(3);
        Calls.run(x, "snow(10) snow(10)");
        Due.is("29", 64 * 29, x.snow(9));
        Due.is("29 and 1", 64 * 30, x.snow(1));
        Due.is("30 and 1", 64 * 30, x.snow(1));
        x.frost(40);
        Due.is("under 30: the root of 49 and 50", 9, x.cell(0, 0));
        x = Due.frozen(3);
        Calls.run(x, "snow(10) snow(10) snow(9) frost(40)");
        Due.is("under 29: the root of 49 and 51", 10, x.cell(0, 0));
        x = Due.frozen(3);
        Calls.run(x, "snow(10) snow(10) snow(9)");
        Due.is("29 and 2", 64 * 30, x.snow(2));
    }

    /** Behind a lane of water no horse comes, but the ice bears one. */
    private static void frostCountsAllThatBear() {
        IceHouse x = Due.frozen(40);
        Calls.run(x, "cut(16) cut(18) cut(20) cut(22)");
        Due.is("4 in the lane", 48, x.frost(1));
        Due.is("9 in the lane", 48, x.frost(4));
        Due.is("a horse comes to 16", 16, x.reached(1));
        Due.is("10 in the lane", 64, x.frost(1));
        Due.is("a horse comes to all", 64, x.reached(1));
    }

    private static void milkedOnlyUnderSnow() {
        IceHouse x = Due.frozen(20);
        x.snow(1);
        Due.is("snow alone", 0, x.cell(0, 2));
        x.scrape(0);
        x.frost(1);
        Due.is("snow that was scraped", 0, x.cell(7, 2));
        Due.is("a snow of 1", 1, x.cell(8, 2));
        x.thaw(1);
        x.frost(40);
        Due.is("from now on", 1, x.cell(8, 2));
        Due.is("and no other", 0, x.cell(7, 2));
    }

    private static void openWaterHasNoSnowAndNoMilk() {
        IceHouse x = Due.frozen(20);
        Calls.run(x, "snow(5) frost(1) cut(0)");
        for (int c : new int[] {0, 1, 8, 9}) {
            Due.is("thick " + c, 0, x.cell(c, 0));
            Due.is("snow " + c, 0, x.cell(c, 1));
            Due.is("milk " + c, 0, x.cell(c, 2));
        }
        Due.is("snow beside it", 5, x.cell(2, 1));
        Due.is("milk beside it", 1, x.cell(2, 2));
        x.frost(1);
        Due.is("new ice is not milked", 0, x.cell(0, 2));
        Due.is("new ice has no snow", 60 * 6 + 4, x.snow(1));
        Calls.run(x, "thaw(19)");
        Due.is("a thick of 1 stays milked", 1, x.cell(2, 2));
        Calls.run(x, "thaw(1) frost(1)");
        Due.is("it was open in between", 0, x.cell(2, 2));
    }

    private static void thawNotBelowNothing() {
        IceHouse x = Due.frozen(20);
        x.cut(0);
        x.frost(1);
        Due.is("4 less 3", 64, x.thaw(3));
        Due.is("1", 1, x.cell(0, 0));
        Due.is("1 less 1", 60, x.thaw(1));
        Due.is("0", 0, x.cell(0, 0));
        Due.is("0 less 1", 60, x.thaw(1));
        Due.is("not below 0", 0, x.cell(0, 0));
        Due.is("counted as open", 60, x.count(8));
        Due.is("4 less 20", 0, x.thaw(20));
        Due.is("not below 0", 0, x.cell(2, 0));
    }

    /** Two cells by two at the end of rows 3 and 4 with water about them: rows do not go on in the next one. */
    private static void noWayRoundARowsEnd() {
        IceHouse right = Due.frozen(40);
        Calls.run(right, "cut(14) cut(46) cut(28)");
        IceHouse left = Due.frozen(40);
        Calls.run(left, "cut(8) cut(40) cut(26)");
        for (int who = 0; who < 3; who++) {
            Due.is("all but the right ones", 64 - 12 - 4, right.reached(who));
            Due.is("all but the left ones", 64 - 12 - 4, left.reached(who));
            for (int c : new int[] {30, 31, 38, 39}) {
                Due.is("right " + c, 0, right.reach(c, who));
                Due.is("left " + (c - 6), 0, left.reach(c - 6, who));
            }
            Due.is("the next row", 1, right.reach(32, who));
            Due.is("the row before", 1, left.reach(23, who));
        }
        Due.is("no horse to the right ones", 2, right.bars(30));
        Due.is("no horse to the left ones", 2, left.bars(24));
    }

    private static void noWayAcrossACorner() {
        IceHouse x = Due.frozen(40);
        Calls.run(x, "cut(11) cut(43) cut(25) cut(29)");
        for (int c : new int[] {18, 21, 42, 45}) {
            Due.is("at the corner " + c, 1, x.reach(c, 1));
        }
        Due.is("not across it", 0, x.reach(27, 1));
        Due.is("nor for the square", 2, x.bars(27));
    }

    /** Cells that are come to by going down, right, left and up alone. */
    private static void theHorseGoesAllFourWays() {
        IceHouse x = Due.frozen(40);
        Calls.run(x, "cut(16) cut(19) cut(1)");
        Due.is("up to 26, 18", 1, x.reach(18, 1));
        Due.is("all that is left", 52, x.reached(1));
        Due.is("18 is beside the square 9", 1, x.bars(9));
        x = Due.frozen(40);
        Calls.run(x, "cut(8) cut(10) cut(12)");
        Due.is("left to 24", 1, x.reach(24, 1));
        Due.is("all that is left", 52, x.reached(2));
        x = Due.frozen(40);
        Calls.run(x, "cut(10) cut(12) cut(14)");
        Due.is("right to 31", 1, x.reach(31, 1));
        Due.is("all that is left", 52, x.reached(0));
    }

    private static void fortyNineSquares() {
        int squares = 0;
        for (int c = -20; c < 84; c++) {
            IceHouse x = Due.frozen(40);
            boolean is = c >= 0 && c / 8 <= 6 && c % 8 <= 6;
            Due.is("bars " + c, is ? 0 : Due.BEYOND, x.bars(c));
            Due.is("cut " + c, is ? 0 : Due.BEYOND, x.cut(c));
            squares += is ? 1 : 0;
        }
        Due.is("squares", 49, squares);
    }

    /** The square 27 was cut and is new ice: of its neighbours each has one other cell in it. */
    private static void eachCellOfASquareOfEight() {
        for (int square : new int[] {18, 20, 34, 36}) {
            IceHouse x = Due.frozen(40);
            x.cut(27);
            Due.is("water at " + square, 1, x.bars(square));
            x.frost(3);
            Due.is("7 at " + square, 1, x.bars(square));
            Due.is("cut with 7", Due.STATE, x.cut(square));
            x = Due.frozen(40);
            x.cut(27);
            x.frost(4);
            Due.is("8", 8, x.cell(27, 0));
            Due.is("8 at " + square, 0, x.bars(square));
            Due.is("cut with 8", 1, x.cut(square));
        }
    }

    /** Row 0 is open but for the square 0: the horse comes to what is beside it over the square alone. */
    private static void theSquareItselfBearsNothing() {
        IceHouse x = Due.frozen(40);
        Calls.run(x, "cut(2) cut(4)");
        Due.is("by the last places", 0, x.bars(0));
        x.cut(6);
        Due.is("a horse comes to 16", 1, x.reach(16, 1));
        Due.is("but over the square", 2, x.bars(0));
        Due.is("so it is not cut", Due.STATE, x.cut(0));
        Due.is("behind it there is a way", 0, x.bars(16));
        Due.is("a thick goes ahead of the horse", 1, x.bars(1));
    }

    private static void aHorseOfTenBesideTheSquare() {
        IceHouse x = Due.frozen(5);
        Due.is("10 beside 10", 0, x.bars(0));
        x.thaw(1);
        Due.is("9 beside 9", 2, x.bars(0));
        Due.is("9 in the middle", 2, x.bars(27));
        x.thaw(1);
        Due.is("8 beside 8", 2, x.bars(27));
        x.thaw(1);
        Due.is("7: a thick, ahead of no horse", 1, x.bars(27));
    }

    /** Cell 9 alone is new ice; the others of the square 9 have 12. */
    private static void forty7AndForty8() {
        IceHouse x = Due.frozen(40);
        Calls.run(x, "cut(0) thaw(20) thaw(4) frost(7)");
        Due.is("cell 9", 11, x.cell(9, 0));
        Due.is("cell 10", 12, x.cell(10, 0));
        x.cut(9);
        Due.is("47 is a shelf", 3, x.about(1, 0));
        Due.is("of 235", 235, x.about(1, 1));
        x = Due.frozen(40);
        Calls.run(x, "cut(0) thaw(20) thaw(6) frost(8) cut(9)");
        Due.is("48 is clear", 1, x.about(1, 0));
        Due.is("of 240", 240, x.about(1, 1));
    }

    /** Row 2 (and 3, if told) is milked, but not where the squares were cut; all is of one thick then. */
    private static IceHouse milkedRows(boolean both, String cuts, String thaws) {
        IceHouse x = Due.frozen(40);
        x.snow(1);
        for (int row = 0; row < 8; row++) {
            if (row != 2 && !(both && row == 3)) {
                x.scrape(row);
            }
        }
        Calls.run(x, "frost(1) thaw(1)");
        Calls.run(x, cuts);
        Calls.run(x, "frost(40) frost(40) frost(40) frost(40) frost(40)");
        Calls.run(x, thaws);
        return x;
    }

    private static void milkedCellsOfASquare() {
        for (String thaws : new String[] {"", "thaw(20) thaw(20) thaw(10)"}) {
            int thick = thaws.isEmpty() ? 60 : 10;
            int[] one = {17, 9, 19, 11};
            for (int square : one) {
                kindOf(milkedRows(false, "cut(8) cut(12)", thaws), square, 0, thick);
            }
            int[] two = {18, 10};
            for (int square : two) {
                kindOf(milkedRows(false, "cut(8) cut(12)", thaws), square, 2, thick);
            }
            kindOf(milkedRows(true, "cut(19)", thaws), 18, 2, thick);
            kindOf(milkedRows(true, "cut(16)", thaws), 17, 2, thick);
            kindOf(milkedRows(true, "cut(19)", thaws), 19, thick < 12 ? 3 : 1, thick);
            kindOf(milkedRows(true, "cut(19)", thaws), 22, 2, thick);
        }
    }

    private static void kindOf(IceHouse x, int square, int kind, int thick) {
        int block = x.cut(square);
        Due.is("kind of " + square, kind, x.about(block, 0));
        Due.is("weight of " + square, 20 * thick, x.about(block, 1));
    }

    private static void milkGoesAheadOfThick() {
        IceHouse x = Due.frozen(5);
        Calls.run(x, "snow(1) frost(1)");
        Due.is("four milked of 10", 10, x.cell(0, 0));
        x.cut(0);
        Due.is("below 48, but milky", 2, x.about(0, 0));
    }

    /** Four thicks of which no two are the same, nor the same as beside them. */
    private static void theWeightIsOfTheFourCells() {
        IceHouse x = Due.frozen(40);
        Calls.run(x, "cut(8) cut(11) frost(10) cut(26) frost(10) snow(4) scrape(3) frost(20)");
        int[] thick = {22, 35, 39, 24};
        int[] cells = {17, 18, 25, 26};
        for (int i = 0; i < 4; i++) {
            Due.is("thick of " + cells[i], thick[i], x.cell(cells[i], 0));
        }
        Due.is("cut", 3, x.cut(17));
        Due.is("5 times 120", 600, x.about(3, 1));
        Due.is("the four are open", 60, x.count(8));
        for (int c : cells) {
            Due.is("open " + c, 0, x.cell(c, 0));
        }
    }

    /** Ever: those that are gone count too. */
    private static void sixtyBlocksEver() {
        IceHouse x = new IceHouse();
        for (int made = 0; made < 60; made++) {
            if (made % 4 == 0) {
                x.frost(40);
            }
            Due.is("block", made, x.cut(48 + 2 * (made % 4)));
            x.put(made, 0);
            x.take(0);
        }
        x.frost(40);
        Due.is("none is left", 0, x.count(1) + x.count(2));
        Due.is("60 ever", Due.FULL, x.cut(0));
        Due.is("the ice is whole", 64, x.count(8));
        Due.is("bars says nothing of it", 0, x.bars(0));
        Due.is("still 60", 60, x.count(0));
        Due.is("no such block", Due.BEYOND, x.about(60, 0));
        Due.is("the last one", 2, x.about(59, 2));
        Due.is("BEYOND goes ahead", Due.BEYOND, x.cut(55));
        Due.tell(x, 0, 2);
        Due.is("a season is of the ice alone", 2, x.season(0));
        Calls.run(x, "thaw(20) thaw(20) thaw(20)");
        Due.is("STATE goes ahead", Due.STATE, x.cut(0));
    }

    private static void seasonOfCellsInCommon() {
        IceHouse x = Due.frozen(40);
        int[][] told = {{9, 0}, {0, 9}, {18, 9, 0}, {54, 53, 46, 45, 6, 48}};
        int[][] want = {{9}, {0}, {18, 0}, {54, 6, 48}};
        for (int i = 0; i < told.length; i++) {
            Due.tell(x, told[i]);
            Due.is("how many", want[i].length, x.season(0));
            for (int k = 0; k < want[i].length; k++) {
                Due.tell(x, told[i]);
                Due.is("the one at " + k, want[i][k], x.season(1 + k));
            }
            Due.tell(x, told[i]);
            Due.is("no more", Due.NONE, x.season(1 + want[i].length));
        }
    }

    /** Of row 0 one square stays: beside the last one no cell would be come to but over it. */
    private static void seasonSoThatTheHorseComesHome() {
        IceHouse x = Due.frozen(40);
        int[] told = {0, 2, 4, 6};
        Due.tell(x, told);
        Due.is("three of four", 3, x.season(0));
        int[] want = {0, 2, 4};
        for (int i = 0; i < 3; i++) {
            Due.tell(x, told);
            Due.is("the one at " + i, want[i], x.season(1 + i));
        }
        Calls.run(x, "cut(0) cut(2) cut(4)");
        Due.is("no horse to the last", 2, x.bars(6));
        Due.tell(x, 6, 22);
        Due.is("one of two", 1, x.season(0));
        Due.tell(x, 6, 22);
        Due.is("it is 22", 22, x.season(1));
    }
}
