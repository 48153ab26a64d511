/** Promises 26 to 29: orders. */
public final class OrdersTest {
    public static void main(String[] args) {
        order();
        why();
        whyGrades();
        whyTheWeek();
        serve();
        serveInTheHeat();
        sales();
        salesShortestFirst();
        salesOfSeveral();
        salesDeeper();
        salesAtMostFour();
        salesFindings();
        Due.end();
    }

    private static void order() {
        IceHouse x = new IceHouse();
        int[] least = {0, 1, 0, 0, 1};
        int[] most = {2, 2000, 100, 20, 1000};
        for (int i = 0; i < 5; i++) {
            int[] low = least.clone();
            low[i]--;
            int[] high = most.clone();
            high[i]++;
            Due.is("too low " + i, Due.BEYOND, x.order(low[0], low[1], low[2], low[3], low[4]));
            Due.is("too high " + i, Due.BEYOND, x.order(high[0], high[1], high[2], high[3], high[4]));
        }
        Due.is("first", 0, x.order(0, 1, 0, 0, 1));
        Due.is("second", 1, x.order(2, 2000, 100, 20, 1000));
        for (int i = 2; i < 10; i++) {
            Due.is("number", i, x.order(1, 10, 10, 10, 10));
        }
        Due.is("BEYOND ahead of FULL", Due.BEYOND, x.order(3, 10, 10, 10, 10));
        Due.is("10 ever", Due.FULL, x.order(1, 10, 10, 10, 10));
        Due.is("count", 10, x.count(3));
    }

    private static void why() {
        IceHouse x = new IceHouse();
        Due.is("no order", Due.BEYOND, x.why(0, 0));
        x.order(0, 550, 9, 10, 5);
        Due.is("order 1", Due.BEYOND, x.why(1, 0));
        Due.is("order -1", Due.BEYOND, x.why(-1, 0));
        Due.is("column -1", Due.BEYOND, x.why(0, -1));
        Due.is("column 16", Due.BEYOND, x.why(0, 16));
        Due.is("empty", 3, x.why(0, 0));
        x.put(Due.block(x, 28, false), 0);
        Due.is("560 less 10 is 550", 0, x.why(0, 0));
        x.warmth(0, 11);
        Due.is("560 less 11 is not", 5, x.why(0, 0));
        x.warmth(0, 10);
        x.order(0, 550, 9, 11, 5);
        Due.is("11 hours are too many", 5, x.why(1, 0));
        x.warmth(0, 0);
        x.serve(0, 0);
        Due.is("served, ahead of empty", 1, x.why(0, 0));
    }

    private static void whyGrades() {
        IceHouse x = new IceHouse();
        int[] blocks = new int[4];
        blocks[1] = Due.block(x, 28, false);
        blocks[2] = Due.block(x, 28, true);
        blocks[3] = Due.block(x, 10, false);
        blocks[0] = Due.plainBlock(x);
        for (int grade = 0; grade < 3; grade++) {
            x.order(grade, 200, 9, 0, 5);
        }
        x.order(2, 2000, 9, 0, 5);
        for (int kind = 0; kind < 4; kind++) {
            x.put(blocks[kind], kind);
        }
        int[][] want = {{0, 0, 0, 0}, {0, 0, 4, 0}, {4, 0, 4, 0}, {4, 5, 4, 5}};
        for (int order = 0; order < 4; order++) {
            for (int kind = 0; kind < 4; kind++) {
                Due.is("order " + order + " kind " + kind, want[order][kind], x.why(order, kind));
            }
        }
        x.put(Due.block(x, 28, true), 1);
        Due.is("the topmost counts", 4, x.why(2, 1));
    }

    private static void whyTheWeek() {
        IceHouse x = new IceHouse();
        x.order(0, 1, 1, 0, 5);
        x.weeks(1);
        Due.is("up to week 1", 3, x.why(0, 0));
        x.weeks(1);
        Due.is("not in week 2", 2, x.why(0, 0));
        Due.is("serve", Due.STATE, x.serve(0, 0));
    }

    private static void serve() {
        IceHouse x = new IceHouse();
        x.order(0, 100, 9, 10, 50);
        int a = Due.block(x, 28, false);
        int b = Due.block(x, 20, false);
        x.put(a, 3);
        x.put(b, 3);
        Due.is("no order", Due.BEYOND, x.serve(1, 3));
        Due.is("order -1", Due.BEYOND, x.serve(-1, 3));
        Due.is("column -1", Due.BEYOND, x.serve(0, -1));
        Due.is("column 16", Due.BEYOND, x.serve(0, 16));
        Due.is("empty", Due.STATE, x.serve(0, 2));
        Due.is("400 less 10", 390, x.serve(0, 3));
        Due.is("SOLD", 390, x.ledger(3));
        Due.is("MELTED", 10, x.ledger(1));
        Due.is("PRICES", 50, x.ledger(6));
        Due.is("house", 560, x.ledger(5));
        Due.is("served", 1, x.count(4));
        Due.is("gone", 2, x.about(b, 2));
        Due.is("weight", 0, x.about(b, 1));
        Due.is("once only", Due.STATE, x.serve(0, 3));
        Due.is("the other lies there", a, x.at(3, 0));
        x.order(0, 560, 9, 0, 1000);
        Due.is("no hours, no loss", 560, x.serve(1, 3));
        Due.is("PRICES", 1050, x.ledger(6));
    }

    private static void serveInTheHeat() {
        IceHouse x = new IceHouse();
        x.warmth(0, 37);
        x.order(0, 1, 9, 9, 50);
        x.put(Due.block(x, 10, false), 0);
        Due.is("200 less 333 by 10", 167, x.serve(0, 0));
        Due.is("MELTED", 33, x.ledger(1));
        IceHouse y = new IceHouse();
        y.order(0, 1, 99, 20, 50);
        y.put(Due.block(y, 10, false), 5);
        for (int week = 0; week <= 12; week++) {
            y.warmth(week, 40);
        }
        y.weeks(8);
        Due.is("80 less 80 is nothing", 5, y.why(0, 5));
        y.weeks(1);
        Due.is("not below 0", 5, y.why(0, 5));
    }

    private static void row(IceHouse x, int[] columns, int... want) {
        for (int what = 0; what < want.length; what++) {
            Due.tell(x, columns);
            Due.is("sales " + what, want[what], x.sales(what));
            Due.is("the columns are gone", 0, x.count(7));
        }
    }

    private static void sales() {
        IceHouse x = new IceHouse();
        row(x, new int[] {0}, 0, 0, Due.NONE, Due.NONE);
        x.put(Due.block(x, 28, false), 4);
        x.put(Due.block(x, 10, false), 9);
        x.order(0, 100, 9, 0, 30);
        x.order(0, 300, 9, 0, 60);
        x.order(0, 100, 9, 0, 40);
        row(x, new int[] {9, 4}, 100, 2, 1, 4, 2, 9, Due.NONE, Due.NONE);
        row(x, new int[] {4, 9}, 100, 2, 1, 4, 2, 9, Due.NONE, Due.NONE);
        row(x, new int[] {9}, 40, 1, 2, 9, Due.NONE);
        row(x, new int[] {9, 3, 0}, 40, 1, 2, 9, Due.NONE);
        Due.is("nothing is sold", 0, x.ledger(3));
        Due.is("nothing is served", 0, x.count(4));
        x.serve(1, 4);
        row(x, new int[] {9, 4}, 40, 1, 2, 9, Due.NONE);
        x.put(Due.block(x, 10, false), 4);
        row(x, new int[] {9, 4}, 70, 2, 0, 9, 2, 4, Due.NONE);
        row(x, new int[] {4, 9}, 70, 2, 0, 4, 2, 9, Due.NONE);
    }

    /** Only order 0 fits either top, so it opens one column alone; both then bring the same, but column 1 sooner. */
    private static void salesShortestFirst() {
        IceHouse x = new IceHouse();
        x.put(Due.block(x, 20, true), 0);
        x.put(Due.block(x, 20, true), 0);
        x.put(Due.block(x, 10, true), 0);
        x.put(Due.block(x, 28, false), 1);
        x.put(Due.block(x, 10, true), 1);
        x.order(0, 100, 9, 0, 7);
        x.order(0, 300, 9, 0, 20);
        x.order(0, 300, 9, 0, 30);
        x.order(2, 300, 9, 0, 50);
        row(x, new int[] {0}, 57, 3, 0, 0, 1, 0, 2, 0, Due.NONE);
        row(x, new int[] {0, 1}, 57, 2, 0, 1, 3, 1, Due.NONE);
        row(x, new int[] {1, 0}, 57, 2, 0, 1, 3, 1, Due.NONE);
    }

    private static void salesOfSeveral() {
        IceHouse x = new IceHouse();
        x.put(Due.block(x, 10, false), 0);
        x.put(Due.block(x, 10, true), 0);
        x.put(Due.block(x, 28, false), 1);
        x.order(1, 300, 9, 0, 60);
        x.order(1, 500, 9, 0, 60);
        x.order(0, 550, 9, 0, 60);
        row(x, new int[] {0, 1}, 60, 1, 0, 1, Due.NONE);
        IceHouse y = new IceHouse();
        y.put(Due.block(y, 28, false), 0);
        y.put(Due.block(y, 10, true), 0);
        y.order(0, 200, 9, 0, 40);
        y.order(2, 300, 9, 0, 60);
        y.order(0, 100, 9, 0, 100);
        row(y, new int[] {0}, 160, 2, 2, 0, 1, 0, Due.NONE);
        y.take(0);
        row(y, new int[] {0}, 100, 1, 2, 0, Due.NONE);
    }

    /** The dear order fits only what lies below a cheap one, so the cheap one is served first. */
    private static void salesDeeper() {
        IceHouse x = new IceHouse();
        x.put(Due.block(x, 28, false), 6);
        x.put(Due.block(x, 20, true), 6);
        x.put(Due.block(x, 10, true), 6);
        x.order(2, 500, 9, 0, 900);
        x.order(0, 400, 9, 0, 2);
        x.order(0, 10, 9, 0, 1);
        row(x, new int[] {6}, 903, 3, 2, 6, 1, 6, 0, 6, Due.NONE);
        x.take(6);
        row(x, new int[] {6}, 902, 2, 1, 6, 0, 6, Due.NONE);
        IceHouse y = new IceHouse();
        y.put(Due.block(y, 28, false), 6);
        y.order(0, 10, 0, 0, 7);
        row(y, new int[] {6}, 7, 1, 0, 6);
        y.weeks(1);
        row(y, new int[] {6}, 0, 0, Due.NONE);
    }

    private static void salesAtMostFour() {
        IceHouse x = new IceHouse();
        for (int i = 0; i < 6; i++) {
            x.put(Due.block(x, 28, false), 12 + i % 2);
        }
        for (int i = 0; i < 6; i++) {
            x.order(0, 10, 9, 0, i == 1 ? 3 : i == 4 ? 4 : 5);
        }
        row(x, new int[] {13, 12}, 20, 4, 0, 13, 2, 13, 3, 13, 5, 12, Due.NONE, Due.NONE);
    }

    private static void salesFindings() {
        IceHouse x = new IceHouse();
        Due.is("none wait", Due.STATE, x.sales(0));
        Due.tell(x, 1, 2);
        Due.is("what -1", Due.BEYOND, x.sales(-1));
        Due.is("they stay", 2, x.count(7));
        Due.tell(x, 3, 4);
        Due.is("four", Due.STATE, x.sales(0));
        Due.is("gone", 0, x.count(7));
        Due.tell(x, 1, 1);
        Due.is("two the same", Due.STATE, x.sales(0));
        Due.is("gone", 0, x.count(7));
        Due.tell(x, 16);
        Due.is("no column", Due.STATE, x.sales(0));
        Due.is("gone", 0, x.count(7));
        Due.tell(x, 0, -1);
        Due.is("no column", Due.STATE, x.sales(0));
        Due.tell(x, 0);
        Due.is("no such one", Due.NONE, x.sales(Integer.MAX_VALUE));
        Due.is("gone with NONE too", 0, x.count(7));
        Due.is("found NONE", 1, x.found(2));
        Due.is("found STATE", 5, x.found(3));
    }
}
