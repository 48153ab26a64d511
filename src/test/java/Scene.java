import java.util.ArrayList;
import java.util.List;

/**
 * A house with a little of everything in it, and all that can be seen of a house: so a test can tell
 * whether a refused call left all as it was.
 *
 * Blocks of the scene: 0 and 1 clear, in column 5; 2 milky, in column 6; 3 a shelf, in column 0;
 * 4 a shelf, thrown out; 5 a shelf, on the shore; 6 a shelf, sold to order 0. Orders 1 and 2 can be served
 * from column 5, order 2 from column 6 too; order 3 from none. Four stations. 5 and 6 wait. It is week 1.
 */
final class Scene {
    private static final String CALLS = "frost(40) cut(0) cut(4) snow(2) frost(10) cut(32) thaw(20) thaw(20)"
            + " frost(5) cut(0) cut(4) cut(48) cut(52) frost(40) snow(4) frost(1) scrape(6)"
            + " put(0, 5) put(1, 5) put(2, 6) put(3, 0) put(4, 0) take(0)"
            + " dust(0, 3) dust(3, 7) cover(5, 4) cover(0, 9) warmth(1, 25) warmth(2, 33) warmth(99, 40)"
            + " order(0, 100, 9, 10, 50) put(6, 9) serve(0, 9) weeks(1)"
            + " order(2, 100, 5, 0, 70) order(0, 1, 50, 3, 70) order(1, 2000, 100, 20, 1000)"
            + " station(10, 20, 15) station(5, 20, 15) station(1, 5, 9) station(1, 0, 0)"
            + " tell(5) tell(6)";

    private Scene() {
    }

    static IceHouse with(String more) {
        IceHouse x = new IceHouse();
        Calls.run(x, CALLS);
        Calls.run(x, more);
        return x;
    }

    /** Asks for all but found(), some 430 calls; what waits is asked for by its use. */
    static List<String> sight(IceHouse x) {
        List<String> seen = new ArrayList<>();
        for (int what = 0; what <= 8; what++) {
            note(seen, x, "count", what);
        }
        for (int what = 0; what <= 6; what++) {
            note(seen, x, "ledger", what);
        }
        note(seen, x, "sales", 5);
        for (int c = 0; c < 64; c++) {
            for (int what = 0; what < 3; what++) {
                note(seen, x, "cell", c, what);
            }
        }
        for (int b = x.count(0) - 1; b >= 0; b--) {
            for (int what = 0; what <= 6; what++) {
                note(seen, x, "about", b, what);
            }
        }
        ordersAndStations(seen, x);
        shelter(seen, x);
        return seen;
    }

    private static void ordersAndStations(List<String> seen, IceHouse x) {
        for (int order = x.count(3) - 1; order >= 0; order--) {
            note(seen, x, "why", order, 5);
            note(seen, x, "why", order, 6);
        }
        for (int what = -1; what <= 2; what++) {
            note(seen, x, "icing", 40, 0, what);
        }
        for (int station = x.count(6) - 1; station >= 0; station--) {
            note(seen, x, "change", station, 1, 1, 1);
        }
    }

    private static void shelter(List<String> seen, IceHouse x) {
        for (int wall = 0; wall < 4; wall++) {
            note(seen, x, "dust", wall, 0);
        }
        for (int column = 0; column < 16; column++) {
            note(seen, x, "cover", column, 0);
        }
        for (int week = 0; week < 100; week++) {
            note(seen, x, "warmth", week, 0);
        }
    }

    private static void note(List<String> seen, IceHouse x, String call, int... numbers) {
        seen.add(Calls.text(call, numbers) + " is " + Calls.ask(x, call, numbers));
    }

    /** How often each finding was answered, from BEYOND on. */
    static int[] findings(IceHouse x) {
        int[] found = new int[5];
        for (int k = 1; k <= 5; k++) {
            found[k - 1] = x.found(k);
        }
        return found;
    }

    /**
     * A call on the scene with more calls ahead answers a finding, which is counted once and changes nothing;
     * or, where the document says that the numbers that wait are gone, nothing but these.
     */
    static void refuses(String more, String call, int finding, boolean theyAreGone) {
        String name = more + " " + call;
        IceHouse x = with(more);
        IceHouse unmoved = with(more);
        Due.is(name, finding, Calls.run(x, call));
        if (theyAreGone) {
            unmoved.check(0);
        }
        int[] found = findings(x);
        int[] before = findings(unmoved);
        for (int k = 1; k <= 5; k++) {
            Due.is(name + ", then found(" + k + ")", before[k - 1] + (finding == -1000000 - k ? 1 : 0), found[k - 1]);
        }
        List<String> seen = sight(x);
        List<String> was = sight(unmoved);
        Due.is(name + ", then as much is seen", was.size(), seen.size());
        for (int i = 0; i < seen.size(); i++) {
            Due.yes(name + ", then " + seen.get(i) + ", was " + was.get(i), seen.get(i).equals(was.get(i)));
        }
    }
}
