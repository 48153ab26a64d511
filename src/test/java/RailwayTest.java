/** Promises 30 to 32: the railway. */
public final class RailwayTest {
    public static void main(String[] args) {
        station();
        change();
        icing();
        icingBuysAhead();
        icingTies();
        icingOfNine();
        icingFindings();
        Due.end();
    }

    private static void station() {
        IceHouse x = new IceHouse();
        int[][] wrong = {{0, 1, 1}, {101, 1, 1}, {1, -1, 1}, {1, 61, 1}, {1, 1, -1}, {1, 1, 31}};
        for (int[] s : wrong) {
            Due.is("not as told", Due.BEYOND, x.station(s[0], s[1], s[2]));
        }
        Due.is("one", 1, x.station(1, 0, 0));
        Due.is("two", 2, x.station(100, 60, 30));
        for (int i = 3; i <= 9; i++) {
            Due.is("how many", i, x.station(50, 30, 10));
        }
        Due.is("BEYOND ahead of FULL", Due.BEYOND, x.station(0, 1, 1));
        Due.is("9 at most", Due.FULL, x.station(1, 1, 1));
        Due.is("count", 9, x.count(6));
    }

    private static void change() {
        IceHouse x = new IceHouse();
        Due.is("no station", Due.BEYOND, x.change(0, 1, 1, 1));
        x.station(5, 20, 3);
        x.station(1, 0, 0);
        int[][] wrong = {{-1, 1, 1, 1}, {2, 1, 1, 1}, {0, 0, 1, 1}, {0, 101, 1, 1},
            {0, 1, -1, 1}, {0, 1, 61, 1}, {0, 1, 1, -1}, {0, 1, 1, 31}};
        for (int[] s : wrong) {
            Due.is("not as told", Due.BEYOND, x.change(s[0], s[1], s[2], s[3]));
        }
        Due.is("as it was", 15, x.icing(60, 0, -1));
        Due.is("had 20", 20, x.change(0, 7, 10, 4));
        Due.is("as changed", 28, x.icing(60, 0, -1));
        Due.is("had 10", 10, x.change(0, 7, 3, 4));
        Due.is("not enough", Due.NONE, x.icing(60, 0, -1));
        Due.is("the last one", 0, x.change(1, 1, 60, 30));
        Due.is("the last one again", 60, x.change(1, 1, 0, 0));
        Due.is("still two", 2, x.count(6));
    }

    private static void answers(IceHouse x, int room, int cakes, int... want) {
        for (int what = -1; what < want.length - 1; what++) {
            Due.is("icing(" + room + ", " + cakes + ", " + what + ")", want[what + 1], x.icing(room, cakes, what));
        }
    }

    private static void icing() {
        IceHouse x = new IceHouse();
        x.station(4, 60, 0);
        x.station(9, 60, 30);
        answers(x, 1, 0, 0, 0);
        x.change(0, 4, 60, 30);
        answers(x, 30, 0, 120, 30);
        answers(x, 60, 12, 72, 18);
        answers(x, 60, 30, 0, 0);
        answers(x, 30, 30, 0, 0);
        answers(x, 29, 0, Due.NONE, Due.NONE);
        answers(x, 29, 29, Due.NONE, Due.NONE);
    }

    private static void icingBuysAhead() {
        IceHouse x = new IceHouse();
        x.station(2, 60, 5);
        x.station(9, 60, 20);
        x.station(9, 60, 30);
        x.station(1, 60, 30);
        answers(x, 60, 0, 110, 55, 0, 0);
        answers(x, 40, 0, 2 * 40 + 9 * 15, 40, 0, 15);
        answers(x, 40, 40, 9 * 15, 0, 0, 15);
        x.change(1, 3, 7, 20);
        answers(x, 40, 0, 2 * 40 + 3 * 5 + 9 * 10, 40, 5, 10);
        x.change(2, 1, 60, 30);
        answers(x, 40, 0, 2 * 25 + 30, 25, 0, 30);
    }

    /** At one price the cakes are bought as late as may be. */
    private static void icingTies() {
        IceHouse x = new IceHouse();
        x.station(5, 60, 10);
        x.station(5, 8, 10);
        x.station(5, 60, 10);
        x.station(5, 60, 10);
        answers(x, 60, 0, 150, 12, 8, 10);
        answers(x, 60, 5, 125, 7, 8, 10);
        answers(x, 60, 60, 0, 0, 0, 0);
        x.change(0, 5, 60, 0);
        x.change(1, 5, 60, 0);
        x.change(2, 5, 60, 0);
        answers(x, 60, 0, 0, 0, 0, 0);
    }

    private static void icingOfNine() {
        IceHouse x = new IceHouse();
        for (int i = 0; i < 9; i++) {
            x.station(10 + i, 60, 30);
        }
        int cost = 60 * 10 + 30 * (11 + 12 + 13 + 14 + 15 + 16);
        answers(x, 60, 0, cost, 60, 30, 30, 30, 30, 30, 30, 0);
        x.change(3, 1, 60, 30);
        answers(x, 60, 0, 90 * 10 - 30 * 10 + 30 * 11 + 60 + 30 * (14 + 15 + 16), 60, 30, 0, 60, 30, 30, 30, 0);
    }

    private static void icingFindings() {
        IceHouse x = new IceHouse();
        Due.is("no stations", Due.STATE, x.icing(20, 0, -1));
        Due.is("BEYOND of room is ahead", Due.BEYOND, x.icing(0, 0, -1));
        Due.is("BEYOND of cakes is ahead", Due.BEYOND, x.icing(5, 6, -1));
        Due.is("STATE is ahead of what", Due.STATE, x.icing(20, 0, 99));
        x.station(1, 60, 1);
        Due.is("one station", Due.STATE, x.icing(20, 0, 0));
        x.station(1, 60, 1);
        Due.is("room 61", Due.BEYOND, x.icing(61, 0, -1));
        Due.is("room -1", Due.BEYOND, x.icing(-1, 0, -1));
        Due.is("cakes -1", Due.BEYOND, x.icing(20, -1, -1));
        Due.is("cakes 21", Due.BEYOND, x.icing(20, 21, -1));
        Due.is("what -2", Due.BEYOND, x.icing(20, 0, -2));
        Due.is("what 1", Due.BEYOND, x.icing(20, 0, 1));
        Due.is("what 0", 1, x.icing(20, 0, 0));
        x.change(0, 1, 0, 1);
        Due.is("BEYOND of what is ahead of NONE", Due.BEYOND, x.icing(20, 0, 1));
        Due.is("NONE", Due.NONE, x.icing(20, 0, 0));
    }
}
