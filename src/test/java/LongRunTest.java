/** Objects that are used for all their 512 calls. */
public final class LongRunTest {
    private static final int CALLS = 512;

    public static void main(String[] args) {
        allFindings();
        eachFindingForItself();
        aTellThatIsFull();
        frostsAndThaws();
        aHundredWeeks();
        allBlocksAndNothingLost();
        theHeaviestHouse();
        theSameAnswerAgain();
        twoObjectsApart();
        Due.end();
    }

    private static void allFindings() {
        IceHouse x = new IceHouse();
        for (int i = 0; i < CALLS - 1; i++) {
            Due.is("found 0", Due.BEYOND, x.found(0));
        }
        Due.is("each was counted", CALLS - 1, x.found(1));
    }

    private static void eachFindingForItself() {
        IceHouse x = Due.frozen(40);
        x.cut(0);
        for (int i = 0; i < 16; i++) {
            x.tell(i);
        }
        String[] calls = {"frost(0)", "take(0)", "cut(0)", "tell(0)", "as(0, 2)"};
        for (int i = 0; i < 450; i++) {
            Due.is(calls[i % 5], -1000001 - i % 5, Calls.run(x, calls[i % 5]));
        }
        for (int k = 1; k <= 5; k++) {
            Due.is("found " + k, 90, x.found(k));
        }
        Due.is("they still wait", 16, x.count(7));
    }

    private static void aTellThatIsFull() {
        IceHouse x = new IceHouse();
        for (int i = 1; i <= 500; i++) {
            Due.is("tell", i <= 16 ? i : Due.FULL, x.tell(0));
        }
        Due.is("16 wait", 16, x.count(7));
        Due.is("found FULL", 484, x.found(4));
        Due.is("the first 16 count", 0, x.check(0));
        Due.is("none wait", 0, x.count(7));
    }

    private static void frostsAndThaws() {
        IceHouse x = new IceHouse();
        for (int i = 0; i < 100; i++) {
            Due.is("frost to 28", 64, x.frost(40));
            Due.is("thaw to 8", 64, x.thaw(20));
            Due.is("thaw to the water", 0, x.thaw(8));
        }
        for (int i = 0; i < 100; i++) {
            Due.is("frost on frost", 64, x.frost(40));
        }
        Due.is("60 at most", 60, x.cell(27, 0));
        for (int i = 0; i < 100; i++) {
            Due.is("snow on snow", 64 * Math.min(30, 1 + i), x.snow(1));
        }
    }

    private static void aHundredWeeks() {
        IceHouse x = new IceHouse();
        for (int i = 0; i < 10; i++) {
            x.put(Due.block(x, 28, i % 2 == 0), i);
        }
        int before = 10 * 560;
        for (int week = 1; week <= 100; week++) {
            int melts = x.melts();
            int left = x.weeks(1);
            Due.is("less by what melts in week " + week, before - melts, left);
            before = left;
        }
        Due.is("MELTED", 10 * 560 - before, x.ledger(1));
        Due.is("week 100", 100, x.count(5));
        for (int i = 0; i < 50; i++) {
            Due.is("no more", Due.FULL, x.weeks(1 + i % 20));
        }
        Due.is("still week 100", 100, x.count(5));
        Due.is("found FULL", 50, x.found(4));
    }

    /** 60 blocks come in and go: thrown out, sold, broken, melted; what is in the house is IN less these. */
    private static void allBlocksAndNothingLost() {
        IceHouse x = new IceHouse();
        for (int order = 0; order < 10; order++) {
            x.order(0, 1, 100, 20, 1 + order);
        }
        int sold = 0;
        for (int made = 0; made < 60; made++) {
            if (made % 4 == 0) {
                Calls.run(x, made % 8 == 0 ? "thaw(20) thaw(20) thaw(20) frost(6)" : "frost(40)");
            }
            Due.is("block", made, x.cut(48 + 2 * (made % 4)));
            x.put(made, made % 7);
            if (made % 5 == 4) {
                x.take(made % 7);
            }
            if (made % 6 == 5 && x.serve(sold, made % 7) > -1000000) {
                sold++;
            }
            if (made % 8 == 7) {
                x.weeks(2);
            }
            if (made % 2 == 1) {
                int out = x.ledger(1) + x.ledger(2) + x.ledger(3) + x.ledger(4);
                Due.is("nothing is lost", x.ledger(0), out + x.ledger(5));
            }
        }
        Due.is("all orders are served", 10, x.count(4));
        Due.is("PRICES", 55, x.ledger(6));
        Due.yes("some broke", x.ledger(2) > 0);
        Due.is("60 ever", Due.FULL, refrozenCut(x));
    }

    private static int refrozenCut(IceHouse x) {
        x.frost(40);
        return x.cut(48);
    }

    /** 60 blocks of 1200 in ten columns of six. */
    private static void theHeaviestHouse() {
        IceHouse x = new IceHouse();
        for (int made = 0; made < 60; made++) {
            if (made % 12 == 0) {
                Calls.run(x, "frost(40) frost(40) frost(40) frost(40) frost(40)");
            }
            Due.is("block", made, x.cut(16 * (3 - made % 12 / 4) + 2 * (made % 4)));
            Due.is("level", made % 6, x.put(made, made / 6));
        }
        Due.is("IN", 72000, x.ledger(0));
        Due.is("in the house", 72000, x.ledger(5));
        Due.is("blocks", 60, x.count(2));
        Due.is("load", 6000, x.about(0, 5));
        Due.is("below 72001", 0, x.lasts(72001));
        Due.is("below 72000", 1, x.lasts(72000));
        for (int column = 0; column < 10; column++) {
            x.tell(7200);
        }
        Due.is("all columns", 0, x.check(0));
        int melts = x.melts();
        Due.is("best of nothing", melts, x.best(0, 0));
        Due.yes("best of 40 is less", x.best(40, 0) < melts);
        Due.is("after 1", 72000 - melts, x.after(1));
        Due.is("weeks 20", x.after(20), x.weeks(20));
    }

    /** What was searched for once leaves nothing behind that another search would find. */
    private static void theSameAnswerAgain() {
        IceHouse x = Scene.with("check(0)");
        for (int i = 0; i < 20; i++) {
            Due.tell(x, 5, 6);
            Due.is("sales", 140, x.sales(0));
            Due.tell(x, 1);
            Due.is("no sales", 0, x.sales(1));
            Due.tell(x, 16, 18, 20, 22, 32, 48);
            Due.is("season", 6, x.season(0));
            Due.tell(x, 5, 6);
            Due.is("a short season", 1, x.season(0));
            Due.tell(x, 16, 18);
            Due.is("a whole one", 2, x.season(0));
            Due.is("icing", 250, x.icing(40, 0, -1));
            Due.is("no icing", Due.NONE, x.icing(14, 0, -1));
        }
    }

    /** Every call to one is made between calls to the other, which hears nothing of it. */
    private static void twoObjectsApart() {
        IceHouse x = new IceHouse();
        IceHouse y = new IceHouse();
        for (int i = 0; i < 200; i++) {
            Due.is("x tells", i < 16 ? i + 1 : Due.FULL, x.tell(i));
            Due.is("nothing waits in y", 0, y.count(7));
        }
        x.frost(40);
        x.cut(0);
        x.put(0, 0);
        x.dust(0, 5);
        x.warmth(0, 40);
        Due.is("y is open water", 0, y.count(8));
        Due.is("no block in y", 0, y.count(0));
        Due.is("no dust in y", 0, y.dust(0, 0));
        Due.is("warmth in y", 10, y.warmth(0, 10));
        Due.is("no finding in y", 0, y.found(4));
    }
}
