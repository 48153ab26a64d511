/** Promises 12 to 25: the house. */
public final class HouseTest {
    private static final int SHELF = 10;
    private static final int CLEAR = 28;

    public static void main(String[] args) {
        put();
        putFindings();
        take();
        move();
        as();
        about();
        aboutLoadAndMelt();
        at();
        dust();
        cover();
        warmth();
        shelvesBreak();
        shelvesBreakBehindAWeek();
        melts();
        wallsByColumn();
        weeks();
        weeksEnd();
        blocksMeltAway();
        after();
        lasts();
        best();
        bestFindings();
        Due.end();
    }

    private static void put() {
        IceHouse x = new IceHouse();
        int a = Due.block(x, CLEAR, false);
        int b = Due.block(x, CLEAR, true);
        Due.is("level 0", 0, x.put(a, 15));
        Due.is("level 1", 1, x.put(b, 15));
        Due.is("in the house", 1, x.about(a, 2));
        Due.is("IN", 1120, x.ledger(0));
        Due.is("count 2", 2, x.count(2));
        Due.is("none on the shore", 0, x.count(1));
    }

    private static void putFindings() {
        IceHouse x = new IceHouse();
        Due.is("no block", Due.BEYOND, x.put(0, 0));
        Due.is("block -1", Due.BEYOND, x.put(-1, 0));
        for (int i = 0; i < 8; i++) {
            Due.block(x, CLEAR, false);
        }
        Due.is("column -1", Due.BEYOND, x.put(0, -1));
        Due.is("column 16", Due.BEYOND, x.put(0, 16));
        Due.is("block 8", Due.BEYOND, x.put(8, 0));
        for (int i = 0; i < 6; i++) {
            Due.is("level " + i, i, x.put(i, 3));
        }
        Due.is("it has 6", Due.STATE, x.put(6, 3));
        Due.is("not on the shore", Due.STATE, x.put(0, 4));
        Due.is("BEYOND ahead of STATE", Due.BEYOND, x.put(0, 16));
        x.take(3);
        Due.is("gone", Due.STATE, x.put(5, 4));
        Due.is("room again", 5, x.put(6, 3));
        Due.is("IN keeps what was thrown", 7 * 560, x.ledger(0));
    }

    private static void take() {
        IceHouse x = new IceHouse();
        int a = Due.block(x, CLEAR, false);
        int b = Due.block(x, 20, false);
        x.put(a, 2);
        x.put(b, 2);
        Due.is("take -1", Due.BEYOND, x.take(-1));
        Due.is("take 16", Due.BEYOND, x.take(16));
        Due.is("take empty", Due.NONE, x.take(0));
        Due.is("the topmost", b, x.take(2));
        Due.is("THROWN", 400, x.ledger(4));
        Due.is("gone", 2, x.about(b, 2));
        Due.is("weight 0", 0, x.about(b, 1));
        Due.is("then the other", a, x.take(2));
        Due.is("THROWN", 960, x.ledger(4));
        Due.is("empty now", Due.NONE, x.take(2));
        Due.is("house", 0, x.ledger(5));
    }

    private static void move() {
        IceHouse x = new IceHouse();
        for (int i = 0; i < 7; i++) {
            Due.block(x, CLEAR, false);
            x.put(i, i < 6 ? 1 : 2);
        }
        Due.is("from -1", Due.BEYOND, x.move(-1, 0));
        Due.is("from 16", Due.BEYOND, x.move(16, 0));
        Due.is("to -1", Due.BEYOND, x.move(1, -1));
        Due.is("to 16", Due.BEYOND, x.move(1, 16));
        Due.is("both are one", Due.BEYOND, x.move(1, 1));
        Due.is("an empty one on itself", Due.BEYOND, x.move(0, 0));
        Due.is("empty, ahead of STATE", Due.NONE, x.move(0, 1));
        Due.is("the other has 6", Due.STATE, x.move(2, 1));
        Due.is("the topmost", 5, x.move(1, 2));
        Due.is("its column", 2, x.about(5, 3));
        Due.is("its level", 1, x.about(5, 4));
        Due.is("IN stays", 7 * 560, x.ledger(0));
        int shelf = Due.block(x, SHELF, false);
        x.put(shelf, 9);
        Due.is("on a shelf", 5, x.move(2, 9));
        Due.is("that breaks", 2, x.about(shelf, 2));
        Due.is("BROKEN", 200, x.ledger(2));
        Due.is("level 0", 0, x.about(5, 4));
    }

    private static void as() {
        IceHouse x = new IceHouse();
        int clear = Due.block(x, CLEAR, false);
        int milky = Due.block(x, CLEAR, true);
        int shelf = Due.block(x, SHELF, false);
        int plain = Due.plainBlock(x);
        int[] blocks = {plain, clear, milky, shelf};
        int[] weights = {770, 560, 560, 200};
        boolean[][] under = {
            {true, false, false, false}, {true, true, false, false},
            {true, false, true, false}, {true, true, false, true}};
        for (int b = 0; b < 4; b++) {
            Due.is("kind", b, x.about(blocks[b], 0));
            for (int kind = 0; kind < 4; kind++) {
                Due.is(b + " as " + kind, under[b][kind] ? weights[b] : Due.KIND, x.as(blocks[b], kind));
            }
        }
        Due.is("found KIND", 8, x.found(5));
        Due.is("kind 4", Due.BEYOND, x.as(clear, 4));
        Due.is("kind -1", Due.BEYOND, x.as(clear, -1));
        Due.is("no block", Due.BEYOND, x.as(x.count(0), 0));
        Due.is("block -1", Due.BEYOND, x.as(-1, 0));
        x.put(clear, 0);
        x.take(0);
        Due.is("a gone one", 0, x.as(clear, 1));
        Due.is("a gone one is no shelf", Due.KIND, x.as(clear, 3));
    }

    private static void about() {
        IceHouse x = new IceHouse();
        Due.is("no block", Due.BEYOND, x.about(0, 0));
        int a = Due.block(x, CLEAR, true);
        int[] ashore = {2, 560, 0, -1, -1, 0, 0};
        for (int what = 0; what < 7; what++) {
            Due.is("ashore " + what, ashore[what], x.about(a, what));
        }
        x.put(a, 0);
        int b = Due.block(x, CLEAR, false);
        x.put(b, 0);
        int[] housed = {2, 560, 1, 0, 0, 560, 6};
        int[] above = {1, 560, 1, 0, 1, 0, 3};
        for (int what = 0; what < 7; what++) {
            Due.is("housed " + what, housed[what], x.about(a, what));
            Due.is("above it " + what, above[what], x.about(b, what));
        }
        Due.is("melts of column 0", 9, x.melts());
        Due.is("weight of column 0", 1120, x.ledger(5));
        x.take(0);
        x.take(0);
        int[] gone = {2, 0, 2, -1, -1, 0, 0};
        for (int what = 0; what < 7; what++) {
            Due.is("gone " + what, gone[what], x.about(a, what));
        }
        Due.is("what 7", Due.BEYOND, x.about(a, 7));
        Due.is("what -1", Due.BEYOND, x.about(a, -1));
        Due.is("block -1", Due.BEYOND, x.about(-1, 0));
        Due.is("block 2", Due.BEYOND, x.about(2, 0));
    }

    private static void aboutLoadAndMelt() {
        IceHouse x = new IceHouse();
        x.warmth(0, 40);
        int low = Due.block(x, CLEAR, false);
        int mid = Due.block(x, 20, true);
        int top = Due.plainBlock(x);
        x.put(low, 5);
        x.put(mid, 5);
        x.put(top, 5);
        Due.is("load of the lowest", 400 + 770, x.about(low, 5));
        Due.is("load of the middle", 770, x.about(mid, 5));
        Due.is("load of the topmost", 0, x.about(top, 5));
        Due.is("clear, four sides: 1600 times 3", 12, x.about(low, 6));
        Due.is("milky, four sides: 1600 times 6", 24, x.about(mid, 6));
        Due.is("plain, a top too: 2000 times 4", 20, x.about(top, 6));
        int beside = Due.block(x, CLEAR, false);
        x.put(beside, 6);
        Due.is("one side less: 1200 times 3", 9, x.about(low, 6));
        Due.is("its own: 1600 times 3", 12, x.about(beside, 6));
        Due.is("the level above is as it was", 24, x.about(mid, 6));
    }

    private static void at() {
        IceHouse x = new IceHouse();
        int a = Due.block(x, CLEAR, false);
        x.put(a, 7);
        Due.is("there", a, x.at(7, 0));
        Due.is("above it", Due.NONE, x.at(7, 1));
        Due.is("level 5", Due.NONE, x.at(7, 5));
        Due.is("level 6", Due.BEYOND, x.at(7, 6));
        Due.is("level -1", Due.BEYOND, x.at(7, -1));
        Due.is("column 16", Due.BEYOND, x.at(16, 0));
        Due.is("column -1", Due.BEYOND, x.at(-1, 0));
        Due.is("an empty one", Due.NONE, x.at(0, 0));
    }

    private static void dust() {
        IceHouse x = new IceHouse();
        for (int wall = 0; wall < 4; wall++) {
            Due.is("was 0", 0, x.dust(wall, 10 - wall));
        }
        for (int wall = 0; wall < 4; wall++) {
            Due.is("was", 10 - wall, x.dust(wall, 0));
        }
        Due.is("wall -1", Due.BEYOND, x.dust(-1, 0));
        Due.is("wall 4", Due.BEYOND, x.dust(4, 0));
        Due.is("n -1", Due.BEYOND, x.dust(0, -1));
        Due.is("n 11", Due.BEYOND, x.dust(0, 11));
        Due.is("unchanged", 0, x.dust(0, 0));
    }

    private static void cover() {
        IceHouse x = new IceHouse();
        Due.is("was 0", 0, x.cover(15, 10));
        Due.is("was 10", 10, x.cover(15, 4));
        Due.is("was 4", 4, x.cover(15, 4));
        Due.is("column -1", Due.BEYOND, x.cover(-1, 0));
        Due.is("column 16", Due.BEYOND, x.cover(16, 0));
        Due.is("n -1", Due.BEYOND, x.cover(0, -1));
        Due.is("n 11", Due.BEYOND, x.cover(0, 11));
        Due.is("unchanged", 0, x.cover(0, 0));
    }

    private static void warmth() {
        IceHouse x = new IceHouse();
        Due.is("was 10", 10, x.warmth(99, 40));
        Due.is("was 40", 40, x.warmth(99, 0));
        Due.is("was 0", 0, x.warmth(99, 7));
        Due.is("week -1", Due.BEYOND, x.warmth(-1, 0));
        Due.is("week 100", Due.BEYOND, x.warmth(100, 0));
        Due.is("w -1", Due.BEYOND, x.warmth(0, -1));
        Due.is("w 41", Due.BEYOND, x.warmth(0, 41));
        Due.is("unchanged", 10, x.warmth(0, 10));
    }

    private static void shelvesBreak() {
        IceHouse x = new IceHouse();
        int[] shelves = new int[4];
        for (int i = 0; i < 4; i++) {
            shelves[i] = Due.block(x, i < 3 ? SHELF : SHELF + 1, false);
        }
        Due.is("level 0", 0, x.put(shelves[0], 4));
        Due.is("level 1", 1, x.put(shelves[1], 4));
        Due.is("twice its weight is borne", 2, x.put(shelves[2], 4));
        Due.is("BROKEN", 0, x.ledger(2));
        Due.is("620 breaks the lowest, 420 the next", 1, x.put(shelves[3], 4));
        Due.is("the lowest", 2, x.about(shelves[0], 2));
        Due.is("the next", 2, x.about(shelves[1], 2));
        Due.is("weight of a broken one", 0, x.about(shelves[0], 1));
        Due.is("220 is borne", 0, x.about(shelves[2], 4));
        Due.is("BROKEN", 400, x.ledger(2));
        Due.is("IN", 820, x.ledger(0));
        Due.is("house", 420, x.ledger(5));
        Due.is("at", shelves[2], x.at(4, 0));
        Due.is("at", shelves[3], x.at(4, 1));
        int clear = Due.block(x, 12, false);
        int load = Due.block(x, CLEAR, false);
        x.put(clear, 8);
        Due.is("a clear one bears all", 1, x.put(load, 8));
    }

    private static void shelvesBreakBehindAWeek() {
        IceHouse x = new IceHouse();
        int shelf = Due.block(x, SHELF, false);
        int load = Due.block(x, 20, false);
        x.put(shelf, 5);
        Due.is("400 is borne", 1, x.put(load, 5));
        x.cover(5, 10);
        x.warmth(0, 40);
        Due.is("388 above twice 188", 388, x.after(1));
        Due.is("weeks", 388, x.weeks(1));
        Due.is("MELTED", 24, x.ledger(1));
        Due.is("BROKEN", 188, x.ledger(2));
        Due.is("a level lower", 0, x.about(load, 4));
    }

    private static void melts() {
        IceHouse x = new IceHouse();
        Due.is("an empty house", 0, x.melts());
        x.warmth(0, 40);
        for (int i = 0; i < 2; i++) {
            x.put(Due.block(x, CLEAR, false), 5 + i);
        }
        Due.is("two with three sides and a top", 24, x.melts());
        x.cover(5, 10);
        Due.is("one covered", 21, x.melts());
        x.warmth(0, 0);
        Due.is("no warmth", 0, x.melts());
        x.weeks(1);
        Due.is("week 1 is at 10: 900 and 400 .. by 400", 2 + 3, x.melts());
    }

    /** One block alone: the dust of a wall counts for the columns at that wall and no others. */
    private static void wallsByColumn() {
        for (int column = 0; column < 16; column++) {
            IceHouse x = new IceHouse();
            x.warmth(0, 40);
            int block = Due.block(x, CLEAR, false);
            x.put(block, column);
            boolean[] at = {column < 4, column >= 12, column % 4 == 0, column % 4 == 3};
            for (int wall = 0; wall < 4; wall++) {
                x.dust(wall, 7);
                int open = 40 * (at[wall] ? 43 : 50);
                Due.is("column " + column + " wall " + wall, open * 3 / 400, x.about(block, 6));
                Due.is("melts", open * 3 / 400, x.melts());
                x.dust(wall, 0);
            }
        }
    }

    private static void weeks() {
        IceHouse x = new IceHouse();
        Due.is("weeks 0", Due.BEYOND, x.weeks(0));
        Due.is("weeks 21", Due.BEYOND, x.weeks(21));
        Due.is("weeks -1", Due.BEYOND, x.weeks(-1));
        int a = Due.block(x, CLEAR, false);
        int ashore = Due.block(x, CLEAR, false);
        x.put(a, 9);
        x.warmth(1, 40);
        Due.is("3 in week 0", 557, x.weeks(1));
        Due.is("15 in week 1, 3 in week 2", 539, x.weeks(2));
        Due.is("week", 3, x.count(5));
        Due.is("MELTED", 21, x.ledger(1));
        Due.is("the shore does not melt", 560, x.about(ashore, 1));
    }

    private static void weeksEnd() {
        IceHouse x = new IceHouse();
        for (int i = 0; i < 4; i++) {
            x.weeks(20);
        }
        x.weeks(10);
        int a = Due.block(x, CLEAR, false);
        x.put(a, 5);
        x.warmth(99, 40);
        Due.is("11 more than 100", Due.FULL, x.weeks(11));
        Due.is("BEYOND ahead of FULL", Due.BEYOND, x.weeks(21));
        Due.is("still 90", 90, x.count(5));
        Due.is("behind week 99 it is 10", 560 - 9 * 3 - 15 - 10 * 3, x.after(20));
        Due.is("100 is fine", 560 - 9 * 3 - 15, x.weeks(10));
        Due.is("week 100", 100, x.count(5));
        Due.is("no more", Due.FULL, x.weeks(1));
        Due.is("week 100 is at 10", 3, x.melts());
        Due.is("after", 518 - 60, x.after(20));
        Due.is("lasts", 2, x.lasts(518 - 5));
    }

    private static void blocksMeltAway() {
        IceHouse x = new IceHouse();
        for (int week = 0; week < 20; week++) {
            x.warmth(week, 40);
        }
        int low = Due.block(x, SHELF, true);
        int top = Due.block(x, CLEAR, false);
        x.put(low, 6);
        x.put(top, 6);
        Due.is("milky 24 a week: 200 to 8; clear 15 a week", 8 + 560 - 120, x.weeks(8));
        Due.is("not more than its weight", 8, x.about(low, 6));
        Due.is("gone, and the other sinks", 560 - 135, x.weeks(1));
        Due.is("gone", 2, x.about(low, 2));
        Due.is("level 0", 0, x.about(top, 4));
        Due.is("at", top, x.at(6, 0));
        Due.is("MELTED", 335, x.ledger(1));
        Due.is("BROKEN", 0, x.ledger(2));
        int last = Due.block(x, SHELF, true);
        x.put(last, 0);
        Due.is("a milky one alone: 30 a week", 425 - 90 + 200 - 180, x.weeks(6));
        x.weeks(1);
        Due.is("the topmost goes too", 2, x.about(last, 2));
        Due.is("its column is empty", Due.NONE, x.at(0, 0));
        Due.is("one is left", 1, x.count(2));
    }

    private static void after() {
        IceHouse x = new IceHouse();
        int a = Due.block(x, SHELF, false);
        x.put(a, 5);
        for (int week = 0; week < 20; week++) {
            x.warmth(week, 40);
        }
        Due.is("after -1", Due.BEYOND, x.after(-1));
        Due.is("after 21", Due.BEYOND, x.after(21));
        Due.is("after 0", 200, x.after(0));
        Due.is("after 1", 185, x.after(1));
        Due.is("after 13", 5, x.after(13));
        Due.is("after 14", 0, x.after(14));
        Due.is("after 20", 0, x.after(20));
        Due.is("nothing changed: week", 0, x.count(5));
        Due.is("nothing changed: weight", 200, x.about(a, 1));
        Due.is("nothing changed: MELTED", 0, x.ledger(1));
    }

    private static void lasts() {
        IceHouse x = new IceHouse();
        Due.is("an empty house", 0, x.lasts(1));
        int a = Due.block(x, SHELF, false);
        x.put(a, 5);
        Due.is("v 0", Due.BEYOND, x.lasts(0));
        Due.is("v 100001", Due.BEYOND, x.lasts(100001));
        Due.is("v 100000", 0, x.lasts(100000));
        Due.is("below 201", 0, x.lasts(201));
        Due.is("below 200", 1, x.lasts(200));
        Due.is("below 197", 2, x.lasts(197));
        Due.is("below 141: behind 20", 20, x.lasts(141));
        Due.is("below 140: it isn't", Due.NONE, x.lasts(140));
        Due.is("found NONE", 1, x.found(2));
        Due.is("nothing changed", 200, x.ledger(5));
    }

    private static void best() {
        IceHouse x = new IceHouse();
        int[] none = {0, 0, 0, 0, 0};
        answers(x, 40, none);
        x.put(Due.block(x, CLEAR, false), 0);
        // 50 tenths are 3, 39 of them 2, 26 of them 1: each is bought with the least that does it.
        answers(x, 0, new int[] {3, 0, 0, 0, 0});
        answers(x, 10, new int[] {3, 0, 0, 0, 0});
        answers(x, 11, new int[] {2, 1, 0, 10, 0});
        answers(x, 40, new int[] {2, 1, 0, 10, 0});
        x.cover(0, 10);
        answers(x, 40, new int[] {1, 4, 0, 10, 0});
        answers(x, 1, new int[] {2, 0, 0, 1, 0});
        x.dust(0, 5);
        answers(x, 1, new int[] {2, 0, 0, 1, 0});
        Due.is("dust is as it was", 5, x.dust(0, 5));
        x.warmth(0, 40);
        x.put(Due.block(x, CLEAR, false), 13);
        // 1, 4, 7 save 1, 2, 3 at either column: 8 save 4, with the least on wall 0, then on wall 1.
        answers(x, 10, new int[] {9 + 14, 0, 1, 7, 0});
        x.warmth(0, 0);
        answers(x, 40, none);
    }

    private static void answers(IceHouse x, int n, int[] want) {
        for (int what = 0; what < 5; what++) {
            Due.is("best(" + n + ", " + what + ")", want[what], x.best(n, what));
        }
    }

    private static void bestFindings() {
        IceHouse x = new IceHouse();
        Due.is("n -1", Due.BEYOND, x.best(-1, 0));
        Due.is("n 41", Due.BEYOND, x.best(41, 0));
        Due.is("what -1", Due.BEYOND, x.best(0, -1));
        Due.is("what 5", Due.BEYOND, x.best(0, 5));
    }
}
