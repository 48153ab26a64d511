/** Promises 1 to 11: a new object, and the lake. */
public final class LakeTest {
    public static void main(String[] args) {
        aNewObject();
        frost();
        thaw();
        snow();
        scrape();
        cell();
        reached();
        bars();
        cut();
        cutIsFull();
        kinds();
        season();
        seasonFindings();
        Due.end();
    }

    private static void aNewObject() {
        IceHouse x = new IceHouse();
        for (int c = 0; c < 64; c++) {
            for (int what = 0; what < 3; what++) {
                Due.is("new cell", 0, x.cell(c, what));
            }
        }
        for (int what = 0; what <= 8; what++) {
            Due.is("new count " + what, 0, x.count(what));
        }
        for (int what = 0; what <= 6; what++) {
            Due.is("new ledger " + what, 0, x.ledger(what));
        }
        for (int k = 1; k <= 5; k++) {
            Due.is("new found " + k, 0, x.found(k));
        }
        for (int k = 0; k < 4; k++) {
            Due.is("new dust", 0, x.dust(k, 0));
        }
        for (int k = 0; k < 16; k++) {
            Due.is("new cover", 0, x.cover(k, 0));
        }
        for (int k = 0; k < 100; k++) {
            Due.is("new warmth", 10, x.warmth(k, 10));
        }
    }

    private static void frost() {
        IceHouse x = new IceHouse();
        Due.is("frost 0", Due.BEYOND, x.frost(0));
        Due.is("frost 41", Due.BEYOND, x.frost(41));
        Due.is("frost -1", Due.BEYOND, x.frost(-1));
        Due.is("nothing froze", 0, x.count(8));
        Due.is("frost 1 on open water", 0, x.frost(1));
        Due.is("root of 20", 4, x.cell(0, 0));
        Due.is("frost 4", 0, x.frost(4));
        Due.is("root of 16 and 80", 9, x.cell(63, 0));
        Due.is("frost 1", 64, x.frost(1));
        Due.is("root of 81 and 20", 10, x.cell(63, 0));
        Due.is("no snow, no milk", 0, x.cell(0, 2));
        x.snow(10);
        x.frost(1);
        Due.is("root of 100 and 40 by 12", 10, x.cell(0, 0));
        Due.is("milked", 1, x.cell(0, 2));
        x.snow(5);
        x.frost(40);
        Due.is("root of 100 and 1600 by 17", 13, x.cell(0, 0));
        for (int i = 0; i < 100; i++) {
            x.frost(40);
        }
        Due.is("the cut root of 2209 and 94 stays", 47, x.cell(0, 0));
        for (int row = 0; row < 8; row++) {
            x.scrape(row);
        }
        x.frost(40);
        Due.is("root of 2209 and 800", 54, x.cell(0, 0));
        x.frost(40);
        Due.is("root of 2916 and 800", 60, x.cell(0, 0));
        x.frost(40);
        Due.is("60 at most", 60, x.cell(0, 0));
    }

    private static void thaw() {
        IceHouse x = Due.frozen(10);
        Due.is("thaw 0", Due.BEYOND, x.thaw(0));
        Due.is("thaw 21", Due.BEYOND, x.thaw(21));
        x.snow(3);
        x.frost(1);
        Due.is("14 stays 14", 14, x.cell(5, 0));
        Due.is("thaw 13", 64, x.thaw(13));
        Due.is("thick 1", 1, x.cell(5, 0));
        Due.is("the snow is gone", 0, x.cell(5, 1));
        Due.is("still milked", 1, x.cell(5, 2));
        Due.is("thaw 20", 0, x.thaw(20));
        Due.is("not below 0", 0, x.cell(5, 0));
        Due.is("not milked in open water", 0, x.cell(5, 2));
        x.frost(20);
        Due.is("a root from 0 again", 20, x.cell(5, 0));
        Due.is("thaw 20 to the bottom", 0, x.thaw(20));
    }

    private static void snow() {
        IceHouse x = new IceHouse();
        Due.is("snow 0", Due.BEYOND, x.snow(0));
        Due.is("snow 11", Due.BEYOND, x.snow(11));
        Due.is("snow on water", 0, x.snow(10));
        Due.is("none lies", 0, x.cell(0, 1));
        x.frost(20);
        Due.is("snow 7", 64 * 7, x.snow(7));
        x.cut(0);
        Due.is("cut cells have no snow", 0, x.cell(9, 1));
        Due.is("and get none", 60 * 17, x.snow(10));
        x.snow(10);
        Due.is("30 at most", 60 * 30, x.snow(10));
        Due.is("30", 30, x.cell(2, 1));
        x.thaw(19);
        Due.is("a thick of 1", 1, x.cell(2, 0));
        Due.is("bears snow", 60 * 2, x.snow(2));
    }

    private static void scrape() {
        IceHouse x = Due.frozen(20);
        x.snow(6);
        Due.is("scrape -1", Due.BEYOND, x.scrape(-1));
        Due.is("scrape 8", Due.BEYOND, x.scrape(8));
        Due.is("scrape 7", 48, x.scrape(7));
        Due.is("scrape 7 again", 0, x.scrape(7));
        Due.is("row 7", 0, x.cell(56, 1));
        Due.is("row 7", 0, x.cell(63, 1));
        Due.is("row 6", 6, x.cell(55, 1));
        Due.is("the rest", 56 * 7 + 8, x.snow(1));
        x.frost(1);
        x.scrape(0);
        Due.is("milked stays", 1, x.cell(0, 2));
    }

    private static void cell() {
        IceHouse x = Due.frozen(10);
        Due.is("cell -1", Due.BEYOND, x.cell(-1, 0));
        Due.is("cell 64", Due.BEYOND, x.cell(64, 0));
        Due.is("what -1", Due.BEYOND, x.cell(0, -1));
        Due.is("what 3", Due.BEYOND, x.cell(0, 3));
        Due.is("least int", Due.BEYOND, x.cell(Integer.MIN_VALUE, 0));
        Due.is("most int", Due.BEYOND, x.cell(0, Integer.MAX_VALUE));
        Due.is("thick", 14, x.cell(63, 0));
    }

    private static void reached() {
        IceHouse x = new IceHouse();
        Due.is("who -1", Due.BEYOND, x.reached(-1));
        Due.is("who 3", Due.BEYOND, x.reached(3));
        Due.is("reach -1", Due.BEYOND, x.reach(-1, 0));
        Due.is("reach 64", Due.BEYOND, x.reach(64, 0));
        Due.is("reach by 3", Due.BEYOND, x.reach(0, 3));
        Due.is("reach by -1", Due.BEYOND, x.reach(0, -1));
        Due.is("water", 0, x.reached(0));
        x.frost(1);
        Due.is("4 bears a man", 64, x.reached(0));
        for (int c = 0; c < 64; c++) {
            Due.is("reach " + c, 1, x.reach(c, 0));
            Due.is("reach " + c, 0, x.reach(c, 1));
        }
        Due.is("4 no horse", 0, x.reached(1));
        x.thaw(1);
        Due.is("3 no man", 0, x.reached(0));
        x = Due.frozen(5);
        Due.is("10 bears a horse", 64, x.reached(1));
        Due.is("10 no team", 0, x.reached(2));
        x = Due.frozen(18);
        Due.is("18 bears a team", 64, x.reached(2));
        x.thaw(1);
        Due.is("17 no team", 0, x.reached(2));
        aLaneOfWater();
    }

    /** Cutting 16, 18, 20, 22 opens rows 2 and 3 whole: what lies behind is out of reach. */
    private static void aLaneOfWater() {
        IceHouse x = Due.frozen(40);
        for (int square = 16; square <= 20; square += 2) {
            x.cut(square);
        }
        Due.is("by the last two places", 64 - 12, x.reached(1));
        Due.is("reach 63", 1, x.reach(63, 1));
        x.cut(22);
        Due.is("cut off", 16, x.reached(0));
        Due.is("reach 15", 1, x.reach(15, 2));
        Due.is("reach 16", 0, x.reach(16, 0));
        Due.is("reach 32", 0, x.reach(32, 0));
        Due.is("bars behind the lane", 2, x.bars(40));
        Due.is("cut behind the lane", Due.STATE, x.cut(40));
        x.frost(1);
        Due.is("a man goes over 4", 64, x.reached(0));
        Due.is("a horse does not", 16, x.reached(1));
        x.frost(4);
        Due.is("nor over 9", 16, x.reached(1));
        Due.is("9 may be cut", 0, x.bars(16));
        Due.is("row 3 of the lane: no horse", 2, x.bars(24));
    }

    private static void bars() {
        IceHouse x = new IceHouse();
        for (int square : new int[] {-1, 7, 15, 55, 56, 62, 63, 64, Integer.MIN_VALUE, Integer.MAX_VALUE}) {
            Due.is("no square " + square, Due.BEYOND, x.bars(square));
            Due.is("cut no square " + square, Due.BEYOND, x.cut(square));
        }
        Due.is("water", 1, x.bars(0));
        x.frost(40);
        x.thaw(19);
        Due.is("9 is thick enough, no horse", 2, x.bars(0));
        x.thaw(1);
        Due.is("8 is thick enough", 2, x.bars(54));
        x.thaw(1);
        Due.is("7 is not", 1, x.bars(54));
        x = Due.frozen(40);
        Due.is("bars 54", 0, x.bars(54));
        Due.is("bars 0", 0, x.bars(0));
    }

    private static void cut() {
        IceHouse x = Due.frozen(5, 1);
        Due.is("10 and 20", 10, x.cell(0, 0));
        x.frost(40);
        Due.is("root of 900", 30, x.cell(0, 0));
        Due.is("first block", 0, x.cut(9));
        Due.is("5 times 120", 600, x.about(0, 1));
        Due.is("on the shore", 0, x.about(0, 2));
        Due.is("count 1", 1, x.count(1));
        for (int c : new int[] {9, 10, 17, 18}) {
            Due.is("open " + c, 0, x.cell(c, 0));
        }
        Due.is("60 are left", 60, x.count(8));
        Due.is("cut again", Due.STATE, x.cut(9));
        Due.is("beside it", Due.STATE, x.cut(0));
        Due.is("second block", 1, x.cut(11));
        Due.is("two blocks", 2, x.count(0));
    }

    private static void cutIsFull() {
        IceHouse x = new IceHouse();
        int made = 0;
        for (int round = 0; round < 20; round++) {
            x.frost(40);
            for (int square : new int[] {48, 50, 52, 54}) {
                if (made < 60) {
                    Due.is("block", made, x.cut(square));
                    made++;
                }
            }
        }
        x.frost(40);
        Due.is("BEYOND ahead of FULL", Due.BEYOND, x.cut(7));
        Due.is("60 ever", Due.FULL, x.cut(0));
        Due.is("nothing changed", 64, x.count(8));
        x.thaw(20);
        x.thaw(20);
        x.thaw(20);
        Due.is("STATE ahead of FULL", Due.STATE, x.cut(0));
        Due.is("60", 60, x.count(0));
        Due.is("found FULL", 1, x.found(4));
    }

    private static void kinds() {
        IceHouse x = Due.frozen(10);
        x.thaw(3);
        x.cut(0);
        Due.is("44 is a shelf", 3, x.about(0, 0));
        Due.is("of 220", 220, x.about(0, 1));
        x = Due.frozen(10);
        x.thaw(2);
        x.cut(0);
        Due.is("48 is clear", 1, x.about(0, 0));
        x = Due.frozen(20);
        x.cut(0);
        x.snow(1);
        x.frost(10);
        x.thaw(1);
        x.frost(40);
        Due.is("one milked cell of four", 1, x.cell(18, 2));
        Due.is("cell 9 is not", 0, x.cell(9, 2));
        x.cut(9);
        Due.is("three milked", 2, x.about(1, 0));
        x.cut(3);
        Due.is("four milked", 2, x.about(2, 0));
        oneMilked();
    }

    private static void oneMilked() {
        IceHouse x = new IceHouse();
        int block = Due.plainBlock(x);
        Due.is("cells 1, 2, 9, 10: one milked", 0, x.about(block, 0));
        Due.is("cell 24", 0, x.cell(24, 2));
        Due.is("cell 32", 1, x.cell(32, 2));
        x.cut(24);
        Due.is("cells 24, 25, 32, 33: two milked", 2, x.about(block + 1, 0));
    }

    private static void season() {
        IceHouse x = Due.frozen(40);
        Due.tell(x, 0);
        Due.is("one", 1, x.season(0));
        Due.is("they are gone", 0, x.count(7));
        Due.tell(x, 0);
        Due.is("the first", 0, x.season(1));
        Due.tell(x, 0);
        Due.is("no second", Due.NONE, x.season(2));
        Due.is("gone with NONE too", 0, x.count(7));
        Due.tell(x, 0);
        Due.is("far beyond its end", Due.NONE, x.season(Integer.MAX_VALUE));
        // The lane must come last, or no horse comes to what lies behind it.
        int[] told = {16, 18, 20, 22, 32, 48};
        int[] want = {16, 18, 20, 32, 48, 22};
        Due.tell(x, told);
        Due.is("all six", 6, x.season(0));
        for (int i = 0; i < 6; i++) {
            Due.tell(x, told);
            Due.is("season " + i, want[i], x.season(1 + i));
        }
        int[] crossing = {9, 0, 2, 18};
        Due.tell(x, crossing);
        Due.is("three of four", 3, x.season(0));
        Due.tell(x, crossing);
        Due.is("0 first", 0, x.season(1));
        Due.tell(x, crossing);
        Due.is("2 then", 2, x.season(2));
        Due.is("nothing was cut", 64, x.count(8));
        Due.is("no block", 0, x.count(0));
        IceHouse water = new IceHouse();
        Due.tell(water, 5, 6);
        Due.is("none", 0, water.season(0));
        Due.tell(water, 5, 6);
        Due.is("none is NONE", Due.NONE, water.season(1));
    }

    private static void seasonFindings() {
        IceHouse x = Due.frozen(40);
        Due.is("none wait", Due.STATE, x.season(0));
        Due.tell(x, 0, 2);
        Due.is("what -1", Due.BEYOND, x.season(-1));
        Due.is("they stay", 2, x.count(7));
        Due.tell(x, 0);
        Due.is("two the same", Due.STATE, x.season(0));
        Due.is("gone", 0, x.count(7));
        Due.tell(x, 0, 7);
        Due.is("no square", Due.STATE, x.season(0));
        Due.is("gone", 0, x.count(7));
        Due.tell(x, 0, -1);
        Due.is("no square", Due.STATE, x.season(0));
        Due.tell(x, 0, 2, 4, 6, 16, 18, 20);
        Due.is("seven", Due.STATE, x.season(0));
        Due.is("gone", 0, x.count(7));
        Due.is("found BEYOND", 1, x.found(1));
        Due.is("found STATE", 5, x.found(3));
    }
}
