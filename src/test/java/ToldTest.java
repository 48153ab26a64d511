/** Promises 33 to 37: the ledger, and what is told. */
public final class ToldTest {
    public static void main(String[] args) {
        ledger();
        tell();
        check();
        checkBehindWeeks();
        count();
        found();
        Due.end();
    }

    /** A little of everything: thrown, sold, broken, melted, and some left. */
    private static void ledger() {
        IceHouse x = new IceHouse();
        int shelf = Due.block(x, 10, false);
        int a = Due.block(x, 28, false);
        int b = Due.block(x, 28, false);
        int c = Due.block(x, 28, false);
        x.order(0, 100, 9, 10, 33);
        x.put(shelf, 5);
        x.put(a, 5);
        x.put(b, 5);
        x.put(c, 5);
        x.take(5);
        x.serve(0, 5);
        x.weeks(1);
        int[] want = {200 + 3 * 560, 10 + 3, 200, 550, 560, 557, 33};
        for (int what = 0; what <= 6; what++) {
            Due.is("ledger " + what, want[what], x.ledger(what));
        }
        Due.is("nothing is lost", want[0] - want[1] - want[2] - want[3] - want[4], x.ledger(5));
        Due.is("ledger -1", Due.BEYOND, x.ledger(-1));
        Due.is("ledger 7", Due.BEYOND, x.ledger(7));
    }

    private static void tell() {
        IceHouse x = new IceHouse();
        for (int i = 1; i <= 16; i++) {
            Due.is("wait", i, x.tell(i % 2 == 0 ? Integer.MAX_VALUE : Integer.MIN_VALUE));
        }
        Due.is("16 wait", Due.FULL, x.tell(0));
        Due.is("still 16", 16, x.count(7));
        Due.is("found FULL", 1, x.found(4));
        x.check(0);
        Due.is("none", 0, x.count(7));
        Due.is("one", 1, x.tell(0));
    }

    private static void check() {
        IceHouse x = new IceHouse();
        Due.is("none wait", 0, x.check(0));
        x.put(Due.block(x, 28, false), 1);
        x.put(Due.block(x, 20, false), 1);
        Due.tell(x, 0, 960);
        Due.is("both are", 0, x.check(0));
        Due.is("gone", 0, x.count(7));
        Due.tell(x, 0, 959);
        Due.is("the second isn't", 2, x.check(0));
        Due.is("gone", 0, x.count(7));
        Due.tell(x, 1, 959);
        Due.is("the first isn't", 1, x.check(0));
        Due.tell(x, 0, 960, 0, 0, 0, 0, 0, 0, 0, 0, 0, 0, 0, 0, 0, 0);
        Due.is("all sixteen", 0, x.check(0));
        Due.tell(x, 0, 960, 0, 0, 0, 0, 0, 0, 0, 0, 0, 0, 0, 0, 0, 1);
        Due.is("the last", 16, x.check(0));
        Due.tell(x, 0, 960);
        Due.is("n -1", Due.BEYOND, x.check(-1));
        Due.is("gone, too", 0, x.count(7));
        Due.tell(x, 0, 960);
        Due.is("n 21", Due.BEYOND, x.check(21));
        Due.is("gone, too", 0, x.count(7));
    }

    private static void checkBehindWeeks() {
        IceHouse x = new IceHouse();
        x.put(Due.block(x, 28, false), 5);
        x.warmth(1, 40);
        Due.tell(x, 0, 0, 0, 0, 0, 560 - 3 - 15);
        Due.is("behind 2", 0, x.check(2));
        Due.tell(x, 0, 0, 0, 0, 0, 560);
        Due.is("not behind 1", 6, x.check(1));
        Due.tell(x, 0, 0, 0, 0, 0, 560 - 15 - 19 * 3);
        Due.is("behind 20", 0, x.check(20));
        Due.is("nothing changed", 560, x.ledger(5));
        Due.is("nor the week", 0, x.count(5));
    }

    private static void count() {
        IceHouse x = new IceHouse();
        for (int i = 0; i < 5; i++) {
            Due.block(x, 28, false);
        }
        x.put(0, 0);
        x.put(1, 0);
        x.put(2, 1);
        x.take(0);
        x.order(0, 1, 50, 0, 1);
        x.order(0, 1, 50, 0, 1);
        x.order(0, 1, 50, 0, 1);
        x.serve(1, 0);
        x.weeks(7);
        x.station(1, 1, 1);
        x.station(1, 1, 1);
        Due.tell(x, 4, 4, 4, 4, 4, 4);
        int[] want = {5, 2, 1, 3, 1, 7, 2, 6, 60};
        for (int what = 0; what <= 8; what++) {
            Due.is("count " + what, want[what], x.count(what));
        }
        Due.is("count -1", Due.BEYOND, x.count(-1));
        Due.is("count 9", Due.BEYOND, x.count(9));
    }

    private static void found() {
        IceHouse x = new IceHouse();
        x.frost(0);
        x.thaw(0);
        x.take(0);
        x.season(0);
        x.cut(0);
        x.cut(0);
        for (int i = 0; i < 20; i++) {
            x.tell(i);
        }
        int b = Due.block(x, 28, false);
        x.as(b, 2);
        int[] want = {0, 2, 1, 3, 4, 1};
        for (int k = 1; k <= 5; k++) {
            Due.is("found " + k, want[k], x.found(k));
        }
        Due.is("found 0", Due.BEYOND, x.found(0));
        Due.is("counted, too", 3, x.found(1));
        Due.is("found 6", Due.BEYOND, x.found(6));
        Due.is("found -1", Due.BEYOND, x.found(-1));
        Due.is("counted, too", 5, x.found(1));
    }
}
