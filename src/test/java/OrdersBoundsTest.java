/** The sentences about orders that name a bound: least weights, weeks, what goes ahead of what, four sales, ties. */
public final class OrdersBoundsTest {
    private static final int CLEAR = 28;

    public static void main(String[] args) {
        whatGoesAhead();
        exactlyTheLeastWeight();
        aWeightOfOneComes();
        theLastWeekOfAnOrder();
        servedIsNotServedAgain();
        fourFromOneColumn();
        lessLoadBreaksNothing();
        theMostPrices();
        ofSeveralTheShortest();
        ofSeveralTheFirstAhead();
        theColumnsAsTheyWereTold();
        tenOrdersThreeColumns();
        aCheapOneThatComesAhead();
        Due.end();
    }

    private static IceHouse with(int column, int blocks) {
        IceHouse x = new IceHouse();
        for (int i = 0; i < blocks; i++) {
            x.put(Due.block(x, CLEAR, false), column);
        }
        return x;
    }

    private static void row(IceHouse x, int[] columns, int... want) {
        for (int what = 0; what < want.length; what++) {
            Due.tell(x, columns);
            Due.is("sales " + what, want[what], x.sales(what));
        }
        for (int what = want.length; what < want.length + 3; what++) {
            Due.tell(x, columns);
            Due.is("no sales " + what, Due.NONE, x.sales(what));
        }
    }

    /** Column 0 is empty, 1 has a milky block of 200, 2 a clear one. */
    private static void whatGoesAhead() {
        IceHouse x = new IceHouse();
        x.put(Due.block(x, 10, true), 1);
        x.put(Due.block(x, CLEAR, false), 2);
        x.put(Due.block(x, CLEAR, false), 3);
        x.order(2, 500, 0, 0, 5);
        x.order(2, 500, 0, 0, 5);
        x.order(2, 2000, 9, 0, 5);
        Due.is("it can", 0, x.why(0, 2));
        Due.is("empty", 3, x.why(0, 0));
        Due.is("GRADE ahead of WEIGHT", 4, x.why(2, 1));
        Due.is("WEIGHT", 5, x.why(2, 2));
        x.serve(0, 3);
        Due.is("SERVED ahead of an empty column", 1, x.why(0, 0));
        Due.is("SERVED ahead of GRADE and WEIGHT", 1, x.why(0, 1));
        Due.is("SERVED, though else it could", 1, x.why(0, 2));
        x.weeks(1);
        Due.is("SERVED ahead of the WEEK", 1, x.why(0, 0));
        Due.is("the WEEK ahead of an empty column", 2, x.why(1, 0));
        Due.is("the WEEK ahead of GRADE and WEIGHT", 2, x.why(1, 1));
        Due.is("the WEEK alone", 2, x.why(1, 2));
        Due.is("an order for later", 5, x.why(2, 2));
    }

    private static void exactlyTheLeastWeight() {
        IceHouse x = with(0, 1);
        x.order(0, 560, 9, 0, 5);
        x.order(0, 561, 9, 0, 5);
        x.order(0, 540, 9, 20, 5);
        x.order(0, 541, 9, 20, 5);
        int[] want = {0, 5, 0, 5};
        for (int order = 0; order < 4; order++) {
            Due.is("why " + order, want[order], x.why(order, 0));
        }
        Due.is("serve 1", Due.STATE, x.serve(1, 0));
        Due.is("serve 3", Due.STATE, x.serve(3, 0));
        x.warmth(0, 9);
        Due.is("18 less comes", 0, x.why(3, 0));
        Due.is("serve 3 now", 542, x.serve(3, 0));
        Due.is("MELTED", 18, x.ledger(1));
        Due.is("SOLD", 542, x.ledger(3));
    }

    /** 200 less 119 in 8 weeks is 81, and 80 more melt on the way. */
    private static void aWeightOfOneComes() {
        IceHouse x = new IceHouse();
        x.put(Due.block(x, 10, false), 5);
        for (int week = 0; week <= 9; week++) {
            x.warmth(week, week == 3 ? 39 : 40);
        }
        x.order(0, 1, 99, 20, 5);
        Due.is("81 is left", 81, x.weeks(8));
        Due.is("1 comes", 0, x.why(0, 5));
        Due.is("1 is sold", 1, x.serve(0, 5));
        Due.is("SOLD", 1, x.ledger(3));
        Due.is("MELTED", 199, x.ledger(1));
        Due.is("none is left", 0, x.ledger(5));
    }

    private static void theLastWeekOfAnOrder() {
        IceHouse x = with(5, 1);
        Calls.run(x, "order(0, 1, 100, 20, 5) order(0, 1, 99, 20, 5) order(0, 1, 0, 0, 5)");
        Due.is("in week 0", 0, x.why(2, 5));
        Calls.run(x, "weeks(20) weeks(20) weeks(20) weeks(20) weeks(19) warmth(99, 40)");
        Due.is("in week 99", 0, x.why(1, 5));
        Due.is("an order for week 0", 2, x.why(2, 5));
        x.weeks(1);
        Due.is("not in week 100", 2, x.why(1, 5));
        Due.is("up to week 100", 0, x.why(0, 5));
        row(x, new int[] {5}, 5, 1, 0, 5);
        int left = x.ledger(5);
        Due.is("week 100 is at 10", left - 20, x.serve(0, 5));
    }

    private static void servedIsNotServedAgain() {
        IceHouse x = with(5, 3);
        Calls.run(x, "order(0, 1, 9, 0, 7)");
        row(x, new int[] {5}, 7, 1, 0, 5);
        x.serve(0, 5);
        row(x, new int[] {5}, 0, 0);
        Due.is("PRICES", 7, x.ledger(6));
        Due.is("serve", Due.STATE, x.serve(0, 5));
        Due.is("PRICES once", 7, x.ledger(6));
        Due.is("SERVED once", 1, x.count(4));
    }

    private static void fourFromOneColumn() {
        IceHouse x = with(9, 6);
        for (int i = 0; i < 6; i++) {
            x.order(0, 1, 9, 0, 10);
        }
        row(x, new int[] {9}, 40, 4, 0, 9, 1, 9, 2, 9, 3, 9);
        x.order(0, 1, 9, 0, 11);
        row(x, new int[] {9}, 41, 4, 0, 9, 1, 9, 2, 9, 6, 9);
        Calls.run(x, "take(9) take(9) take(9)");
        row(x, new int[] {9}, 31, 3, 0, 9, 1, 9, 6, 9);
    }

    /** Three shelves are sold from above a heavy block, which is the fourth; none of them breaks. */
    private static void lessLoadBreaksNothing() {
        IceHouse x = new IceHouse();
        int[] thick = {28, 28, 10, 10, 10};
        for (int t : thick) {
            x.put(Due.block(x, t, false), 9);
        }
        Calls.run(x, "order(0, 1, 9, 0, 1) order(0, 1, 9, 0, 1) order(0, 1, 9, 0, 1) order(0, 500, 9, 0, 1000)");
        row(x, new int[] {9}, 1003, 4, 0, 9, 1, 9, 2, 9, 3, 9);
        x.put(Due.block(x, CLEAR, false), 9);
        Due.is("all three shelves break under it", 600, x.ledger(2));
        row(x, new int[] {9}, 1002, 3, 0, 9, 1, 9, 3, 9);
    }

    private static void theMostPrices() {
        IceHouse x = with(3, 1);
        Calls.run(x, "order(0, 1, 9, 0, 999) order(0, 1, 9, 0, 1000) order(0, 1, 9, 0, 1)");
        row(x, new int[] {3}, 1000, 1, 1, 3);
        x.put(Due.block(x, CLEAR, false), 2);
        row(x, new int[] {3}, 1000, 1, 1, 3);
        row(x, new int[] {3, 2}, 1999, 2, 0, 3, 1, 2);
        x.put(Due.block(x, CLEAR, false), 1);
        row(x, new int[] {3, 2, 1}, 2000, 3, 0, 3, 1, 2, 2, 1);
    }

    /** One clear block to a dear order, or two milky ones to cheap ones of the same prices together. */
    private static void ofSeveralTheShortest() {
        IceHouse x = new IceHouse();
        x.put(Due.block(x, CLEAR, false), 0);
        x.put(Due.block(x, CLEAR, true), 0);
        Calls.run(x, "order(0, 500, 9, 0, 20) order(2, 500, 9, 0, 40) order(0, 560, 9, 0, 60)");
        row(x, new int[] {0}, 100, 2, 2, 0, 1, 0);
        x.take(0);
        row(x, new int[] {0}, 60, 1, 2, 0);
        IceHouse y = new IceHouse();
        y.put(Due.block(y, CLEAR, true), 0);
        y.put(Due.block(y, CLEAR, true), 0);
        y.put(Due.block(y, 10, true), 0);
        y.put(Due.block(y, CLEAR, false), 1);
        y.put(Due.block(y, 10, true), 1);
        Calls.run(y, "order(0, 1, 9, 0, 1) order(0, 500, 9, 0, 20) order(0, 500, 9, 0, 20) order(2, 1, 9, 0, 40)");
        Due.is("a small one does not do for 1", 5, y.why(1, 1));
        row(y, new int[] {0, 1}, 41, 2, 0, 1, 3, 1);
    }

    private static void ofSeveralTheFirstAhead() {
        IceHouse x = with(4, 2);
        x.put(Due.block(x, CLEAR, false), 8);
        x.put(Due.block(x, CLEAR, false), 8);
        Calls.run(x, "order(0, 1, 9, 0, 5) order(0, 1, 9, 0, 5) order(0, 1, 9, 0, 5)");
        row(x, new int[] {8, 4}, 15, 3, 0, 8, 1, 8, 2, 4);
        row(x, new int[] {4, 8}, 15, 3, 0, 4, 1, 4, 2, 8);
        row(x, new int[] {4}, 10, 2, 0, 4, 1, 4);
    }

    /** Order 1 comes behind order 0 in the row only where it can: the first ORDER counts ahead of its COLUMN. */
    private static void theColumnsAsTheyWereTold() {
        IceHouse x = new IceHouse();
        x.put(Due.block(x, CLEAR, false), 2);
        x.put(Due.block(x, 10, false), 11);
        Calls.run(x, "order(0, 500, 9, 0, 5) order(0, 100, 9, 0, 5)");
        row(x, new int[] {11, 2}, 10, 2, 0, 2, 1, 11);
        row(x, new int[] {2, 11}, 10, 2, 0, 2, 1, 11);
        row(x, new int[] {11}, 5, 1, 1, 11);
        row(x, new int[] {0, 15, 11}, 5, 1, 1, 11);
        row(x, new int[] {0, 15, 1}, 0, 0);
    }

    /** All ten orders can be served from all three columns, six levels each: four of them are, the dearest. */
    private static void tenOrdersThreeColumns() {
        IceHouse x = new IceHouse();
        for (int i = 0; i < 18; i++) {
            x.put(Due.block(x, CLEAR, false), i % 3);
        }
        int[] prices = {5, 9, 1, 7, 9, 2, 9, 3, 8, 9};
        for (int price : prices) {
            x.order(0, 1, 9, 0, price);
        }
        row(x, new int[] {2, 1, 0}, 36, 4, 1, 2, 4, 2, 6, 2, 9, 2);
        x.serve(6, 1);
        row(x, new int[] {2, 1, 0}, 35, 4, 1, 2, 4, 2, 8, 2, 9, 2);
        row(x, new int[] {0}, 35, 4, 1, 0, 4, 0, 8, 0, 9, 0);
    }

    /** Rows with order 0 come first, but the most is to be had without it. */
    private static void aCheapOneThatComesAhead() {
        IceHouse x = with(0, 4);
        Calls.run(x, "order(0, 1, 9, 0, 1)");
        for (int i = 1; i <= 4; i++) {
            x.order(0, 1, 9, 0, 1000);
        }
        row(x, new int[] {0}, 4000, 4, 1, 0, 2, 0, 3, 0, 4, 0);
        x.take(0);
        row(x, new int[] {0}, 3000, 3, 1, 0, 2, 0, 3, 0);
        x.put(Due.block(x, CLEAR, false), 1);
        row(x, new int[] {1, 0}, 4000, 4, 1, 1, 2, 0, 3, 0, 4, 0);
    }
}
