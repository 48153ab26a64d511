/**
 * NONE, STATE, FULL and KIND, each beside the last call that is taken; the order of the findings where a call
 * has several; and that a refused call changes nothing. All on the scene (see there), with calls ahead of it.
 */
public final class RefusalsTest {
    /** Column 5 has 5 blocks then; 10 is on the shore. */
    private static final String FIVE = "cut(16) put(7, 5) cut(18) put(8, 5) cut(20) put(9, 5) cut(36)";
    private static final String SIX = FIVE + " put(10, 5)";
    private static final String WEEK_80 = "weeks(20) weeks(20) weeks(20) weeks(19)";
    private static final String WEEK_100 = WEEK_80 + " weeks(20)";

    public static void main(String[] args) {
        theScene();
        cut();
        season();
        seasonKeepsOrUsesUp();
        put();
        take();
        move();
        as();
        at();
        weeks();
        lasts();
        order();
        serve();
        sales();
        salesKeepsOrUsesUp();
        station();
        icing();
        tell();
        Due.end();
    }

    private static void taken(String ahead, String call, int answer) {
        Due.is(ahead + " " + call, answer, Calls.run(Scene.with(ahead), call));
    }

    private static void refused(String ahead, String call, int finding) {
        Scene.refuses(ahead, call, finding, false);
    }

    /** Refused, and the numbers that waited are gone. */
    private static void refusedForGood(String ahead, String call, int finding) {
        Scene.refuses(ahead, call, finding, true);
    }

    private static void theScene() {
        IceHouse x = Scene.with("");
        int[][] blocks = {{1, 1, 5}, {1, 1, 5}, {2, 1, 6}, {3, 1, 0}, {3, 2, -1}, {3, 0, -1}, {3, 2, -1}};
        for (int b = 0; b < 7; b++) {
            Due.is("kind of " + b, blocks[b][0], x.about(b, 0));
            Due.is("where " + b + " is", blocks[b][1], x.about(b, 2));
            Due.is("column of " + b, blocks[b][2], x.about(b, 3));
        }
        int[] counts = {7, 1, 4, 4, 1, 1, 4, 2, 64};
        for (int what = 0; what <= 8; what++) {
            Due.is("count " + what, counts[what], x.count(what));
        }
        for (int k = 1; k <= 5; k++) {
            Due.is("no finding yet", 0, x.found(k));
        }
    }

    private static void cut() {
        taken("", "cut(9)", 7);
        refused("cut(9)", "cut(9)", Due.STATE);
        refused("cut(9)", "cut(0)", Due.STATE);
        refused("cut(9)", "cut(18)", Due.STATE);
        String lane = "cut(16) cut(18) cut(20)";
        taken(lane, "cut(40)", 10);
        refused(lane + " cut(22)", "cut(40)", Due.STATE);
        refused("thaw(20) thaw(20)", "cut(54)", Due.STATE);
        refused("thaw(20) thaw(20)", "cut(55)", Due.BEYOND);
        refused("thaw(20) thaw(20)", "cut(7)", Due.BEYOND);
    }

    /** The squares 5 and 6, which wait in the scene, have cells in common. */
    private static void season() {
        taken("", "season(0)", 1);
        taken("", "season(1)", 5);
        refusedForGood("", "season(2)", Due.NONE);
        refusedForGood("", "season(2147483647)", Due.NONE);
        refusedForGood("check(0)", "season(0)", Due.STATE);
        taken("check(0) tell(3)", "season(0)", 1);
        String six = "tell(0) tell(2) tell(16) tell(18)";
        taken(six, "season(0)", 5);
        refusedForGood(six + " tell(32)", "season(0)", Due.STATE);
        String sixteen = six + " tell(32) tell(34) tell(36) tell(38) tell(48) tell(50) tell(52) tell(54) tell(20) tell(22)";
        taken(sixteen, "count(7)", 16);
        refusedForGood(sixteen, "season(0)", Due.STATE);
        taken("tell(54)", "season(0)", 2);
        for (String noSquare : new String[] {"tell(55)", "tell(7)", "tell(-1)", "tell(64)", "tell(-2147483648)"}) {
            refusedForGood(noSquare, "season(0)", Due.STATE);
            refusedForGood("check(0) " + noSquare + " tell(5)", "season(0)", Due.STATE);
        }
        refusedForGood("tell(5)", "season(0)", Due.STATE);
        refusedForGood("tell(6)", "season(0)", Due.STATE);
        refusedForGood("check(0) tell(5) tell(0) tell(2) tell(16) tell(18) tell(5)", "season(0)", Due.STATE);
        taken("thaw(20) thaw(20)", "season(0)", 0);
        refusedForGood("thaw(20) thaw(20)", "season(1)", Due.NONE);
    }

    private static void seasonKeepsOrUsesUp() {
        String[] unfit = {"", "check(0)", "tell(7)", "tell(5)", "tell(0) tell(1) tell(2) tell(3) tell(4)"};
        for (String ahead : unfit) {
            refused(ahead, "season(-1)", Due.BEYOND);
        }
        taken("season(-1)", "season(1)", 5);
        refusedForGood("tell(5)", "season(99)", Due.STATE);
        refusedForGood("season(0)", "season(0)", Due.STATE);
    }

    private static void put() {
        taken("", "put(5, 0)", 1);
        taken("", "put(5, 15)", 0);
        refused("put(5, 1)", "put(5, 2)", Due.STATE);
        refused("", "put(4, 1)", Due.STATE);
        refused("", "put(6, 1)", Due.STATE);
        refused("move(5, 0)", "put(3, 1)", Due.STATE);
        taken("move(5, 0)", "about(3, 2)", 2);
        taken(FIVE, "put(10, 5)", 5);
        refused(SIX, "put(5, 5)", Due.STATE);
        refused(SIX, "put(11, 5)", Due.BEYOND);
        refused("", "put(0, 16)", Due.BEYOND);
        taken(SIX + " take(5)", "put(5, 5)", 5);
    }

    private static void take() {
        taken("", "take(5)", 1);
        taken("take(5)", "take(5)", 0);
        refused("take(5) take(5)", "take(5)", Due.NONE);
        refused("", "take(1)", Due.NONE);
    }

    private static void move() {
        taken("", "move(5, 15)", 1);
        refused("", "move(1, 5)", Due.NONE);
        taken(FIVE, "move(6, 5)", 2);
        refused(SIX, "move(6, 5)", Due.STATE);
        refused(SIX, "move(1, 5)", Due.NONE);
        refused(SIX, "move(16, 5)", Due.BEYOND);
        refused(SIX, "move(5, 5)", Due.BEYOND);
        refused("", "move(5, 5)", Due.BEYOND);
        refused("", "move(1, 1)", Due.BEYOND);
        refused("", "move(1, 16)", Due.BEYOND);
        refused("", "move(16, 16)", Due.BEYOND);
    }

    private static void as() {
        taken("", "as(5, 3)", 200);
        taken("", "as(5, 1)", 200);
        taken("", "as(5, 0)", 200);
        refused("", "as(5, 2)", Due.KIND);
        refused("", "as(0, 3)", Due.KIND);
        refused("", "as(0, 2)", Due.KIND);
        refused("", "as(2, 1)", Due.KIND);
        refused("", "as(2, 3)", Due.KIND);
        taken("", "as(4, 1)", 0);
        refused("", "as(4, 2)", Due.KIND);
        refused("", "as(7, 2)", Due.BEYOND);
        refused("", "as(0, 4)", Due.BEYOND);
    }

    private static void at() {
        taken("", "at(5, 1)", 1);
        refused("", "at(5, 2)", Due.NONE);
        refused("", "at(5, 5)", Due.NONE);
        refused("take(5)", "at(5, 1)", Due.NONE);
        taken(SIX, "at(5, 5)", 10);
        refused(SIX, "at(5, 6)", Due.BEYOND);
        refused("", "at(1, 0)", Due.NONE);
        refused("", "at(1, 6)", Due.BEYOND);
    }

    private static void weeks() {
        taken(WEEK_100, "count(5)", 100);
        taken(WEEK_100, "found(4)", 0);
        refused(WEEK_80 + " weeks(1)", "weeks(20)", Due.FULL);
        taken(WEEK_80 + " weeks(1) weeks(19)", "count(5)", 100);
        refused(WEEK_100, "weeks(1)", Due.FULL);
        refused(WEEK_100, "weeks(20)", Due.FULL);
        refused(WEEK_100, "weeks(21)", Due.BEYOND);
        refused(WEEK_100, "weeks(0)", Due.BEYOND);
    }

    private static void lasts() {
        refused("", "lasts(1)", Due.NONE);
        taken("", "lasts(1888)", 0);
        taken("", "lasts(1887)", 1);
        taken("take(0) take(5) take(5) take(6)", "lasts(1)", 0);
    }

    private static void order() {
        String nine = "order(0, 1, 0, 0, 1) order(0, 1, 0, 0, 1) order(0, 1, 0, 0, 1) order(0, 1, 0, 0, 1) order(0, 1, 0, 0, 1)";
        taken(nine, "order(2, 2000, 100, 20, 1000)", 9);
        refused(nine + " order(0, 1, 0, 0, 1)", "order(0, 1, 0, 0, 1)", Due.FULL);
        refused(nine + " order(0, 1, 0, 0, 1)", "order(0, 1, 0, 0, 0)", Due.BEYOND);
        refused(nine + " order(0, 1, 0, 0, 1)", "order(0, 1, 101, 0, 1)", Due.BEYOND);
    }

    private static void serve() {
        taken("", "serve(1, 5)", 557);
        refused("", "serve(0, 5)", Due.STATE);
        refused("weeks(5)", "serve(1, 5)", Due.STATE);
        taken("weeks(4) serve(1, 5)", "count(4)", 2);
        refused("", "serve(1, 1)", Due.STATE);
        refused("", "serve(1, 6)", Due.STATE);
        refused("", "serve(3, 5)", Due.STATE);
        refused("serve(1, 5)", "serve(1, 5)", Due.STATE);
        refused("", "serve(4, 1)", Due.BEYOND);
        refused("", "serve(0, 16)", Due.BEYOND);
    }

    /** Orders 1 and 2, 70 each, are served from columns 5 and 6, which wait in the scene. */
    private static void sales() {
        int[] row = {140, 2, 1, 5, 2, 5};
        for (int what = 0; what < 6; what++) {
            taken("", "sales(" + what + ")", row[what]);
        }
        refusedForGood("", "sales(6)", Due.NONE);
        refusedForGood("", "sales(7)", Due.NONE);
        refusedForGood("", "sales(2147483647)", Due.NONE);
        refusedForGood("check(0)", "sales(0)", Due.STATE);
        taken("tell(0)", "sales(0)", 140);
        refusedForGood("tell(0) tell(1)", "sales(0)", Due.STATE);
        taken("tell(15)", "sales(0)", 140);
        refusedForGood("tell(16)", "sales(0)", Due.STATE);
        refusedForGood("check(0) tell(-1) tell(5)", "sales(0)", Due.STATE);
        refusedForGood("tell(-2147483648)", "sales(0)", Due.STATE);
        refusedForGood("tell(5)", "sales(0)", Due.STATE);
        refusedForGood("tell(6)", "sales(0)", Due.STATE);
        taken("check(0) tell(1)", "sales(0)", 0);
        taken("check(0) tell(1)", "sales(1)", 0);
        refusedForGood("check(0) tell(1)", "sales(2)", Due.NONE);
    }

    private static void salesKeepsOrUsesUp() {
        for (String ahead : new String[] {"", "check(0)", "tell(16)", "tell(5)", "tell(0) tell(1)"}) {
            refused(ahead, "sales(-1)", Due.BEYOND);
        }
        taken("sales(-1)", "sales(3)", 5);
        refusedForGood("tell(5)", "sales(99)", Due.STATE);
        refusedForGood("sales(0)", "sales(0)", Due.STATE);
    }

    private static void station() {
        String eight = "station(1, 0, 0) station(1, 0, 0) station(1, 0, 0) station(1, 0, 0)";
        taken(eight, "station(100, 60, 30)", 9);
        refused(eight + " station(1, 0, 0)", "station(1, 0, 0)", Due.FULL);
        refused(eight + " station(1, 0, 0)", "station(0, 0, 0)", Due.BEYOND);
        refused(eight + " station(1, 0, 0)", "station(1, 0, 31)", Due.BEYOND);
        taken(eight + " station(1, 7, 0)", "change(8, 1, 0, 0)", 7);
        refused(eight, "change(8, 1, 0, 0)", Due.BEYOND);
    }

    private static void icing() {
        taken("", "icing(20, 0, 2)", 5);
        taken("", "icing(19, 0, -1)", 10 * 15 + 5 * 19 + 5);
        refused("", "icing(14, 0, -1)", Due.NONE);
        refused("", "icing(14, 0, 2)", Due.NONE);
        refused("", "icing(14, 0, 3)", Due.BEYOND);
        refused("", "icing(14, 0, -2)", Due.BEYOND);
        refused("", "icing(14, 15, -1)", Due.BEYOND);
    }

    private static void tell() {
        String fifteen = "tell(1) tell(1) tell(1) tell(1) tell(1) tell(1) tell(1) tell(1) tell(1) tell(1) tell(1) tell(1) tell(1)";
        taken(fifteen, "tell(2147483647)", 16);
        refused(fifteen + " tell(1)", "tell(0)", Due.FULL);
        taken(fifteen + " tell(1) season(0)", "tell(0)", 1);
    }
}
