/** The sentences about the railway that name a bound: nine stations, room, cakes, ways, the last station, ties. */
public final class RailwayBoundsTest {
    public static void main(String[] args) {
        twoToNineStations();
        noMoreThanTheRoom();
        noMoreThanAStationHas();
        nothingIsEnoughBehindAWay();
        theLastStationSellsNothing();
        theDearestWay();
        theFewestAtTheFirst();
        changedStations();
        Due.end();
    }

    private static void is(IceHouse x, int room, int cakes, int... want) {
        for (int what = -1; what < want.length - 1; what++) {
            Due.is(Calls.text("icing", room, cakes, what), want[what + 1], x.icing(room, cakes, what));
        }
        Due.is("no such station", Due.BEYOND, x.icing(room, cakes, want.length - 1));
        Due.is("what -2", Due.BEYOND, x.icing(room, cakes, -2));
    }

    private static void twoToNineStations() {
        IceHouse x = new IceHouse();
        for (int n = 0; n < 9; n++) {
            Due.is("fewer than 2", n < 2 ? Due.STATE : 4 * (n - 1), x.icing(60, 0, -1));
            Due.is("what " + (n - 1), n < 2 ? Due.STATE : Due.BEYOND, x.icing(60, 0, n - 1));
            Due.is("room goes ahead of all", Due.BEYOND, x.icing(61, 0, n - 1));
            Due.is("cakes go ahead of all", Due.BEYOND, x.icing(60, 61, n - 1));
            Due.is("station", n + 1, x.station(2, 2, 2));
        }
        is(x, 2, 0, 32, 2, 2, 2, 2, 2, 2, 2, 2);
        Due.is("the tenth", Due.FULL, x.station(2, 2, 2));
        Due.is("the ninth is there", 2, x.change(8, 1, 60, 0));
        Due.is("the tenth is not", Due.BEYOND, x.change(9, 1, 60, 0));
    }

    private static void noMoreThanTheRoom() {
        IceHouse x = new IceHouse();
        Calls.run(x, "station(1, 60, 10) station(9, 60, 10) station(1, 0, 0)");
        is(x, 20, 0, 20, 20, 0);
        is(x, 19, 0, 19 + 9, 19, 1);
        is(x, 10, 0, 10 + 90, 10, 10);
        is(x, 9, 0, Due.NONE, Due.NONE, Due.NONE);
        is(x, 20, 20, 0, 0, 0);
        is(x, 19, 19, 9, 0, 1);
        is(x, 10, 10, 90, 0, 10);
        is(x, 9, 9, Due.NONE, Due.NONE, Due.NONE);
        is(x, 60, 60, 0, 0, 0);
        is(x, 60, 19, 1, 1, 0);
    }

    private static void noMoreThanAStationHas() {
        IceHouse x = new IceHouse();
        Calls.run(x, "station(1, 15, 10) station(9, 5, 10) station(1, 0, 0)");
        is(x, 60, 0, 15 + 45, 15, 5);
        x.change(1, 9, 4, 10);
        is(x, 60, 0, Due.NONE, Due.NONE, Due.NONE);
        is(x, 60, 1, 15 + 36, 15, 4);
        x.change(0, 1, 0, 10);
        is(x, 60, 15, Due.NONE, Due.NONE, Due.NONE);
        is(x, 60, 16, 36, 0, 4);
    }

    private static void nothingIsEnoughBehindAWay() {
        IceHouse x = new IceHouse();
        Calls.run(x, "station(3, 60, 30) station(4, 60, 30) station(5, 60, 30)");
        is(x, 30, 30, 120, 0, 30);
        is(x, 30, 29, 3 + 120, 1, 30);
        is(x, 60, 60, 0, 0, 0);
        is(x, 60, 59, 3, 1, 0);
        x.change(0, 3, 60, 0);
        is(x, 30, 0, 90, 30, 0);
        x.change(1, 4, 60, 0);
        is(x, 1, 0, 0, 0, 0);
        is(x, 1, 1, 0, 0, 0);
    }

    private static void theLastStationSellsNothing() {
        IceHouse x = new IceHouse();
        Calls.run(x, "station(100, 60, 30) station(1, 60, 30)");
        is(x, 60, 0, 3000, 30);
        Calls.run(x, "change(1, 1, 0, 0)");
        is(x, 60, 0, 3000, 30);
        Calls.run(x, "change(0, 100, 29, 30)");
        is(x, 60, 0, Due.NONE, Due.NONE);
        is(x, 60, 1, 2900, 29);
    }

    private static void theDearestWay() {
        IceHouse x = new IceHouse();
        for (int i = 0; i < 9; i++) {
            x.station(100, 60, 30);
        }
        is(x, 60, 0, 24000, 30, 30, 30, 30, 30, 30, 30, 30);
        is(x, 30, 30, 21000, 0, 30, 30, 30, 30, 30, 30, 30);
        is(x, 29, 29, Due.NONE, Due.NONE, Due.NONE, Due.NONE, Due.NONE, Due.NONE, Due.NONE, Due.NONE, Due.NONE);
    }

    /** At one price for all: the fewest at 0, then at 1, and so on, as far as later ones have cakes. */
    private static void theFewestAtTheFirst() {
        IceHouse x = new IceHouse();
        Calls.run(x, "station(7, 60, 5) station(7, 60, 5) station(7, 3, 5) station(7, 0, 5) station(7, 0, 0)");
        is(x, 60, 0, 140, 5, 12, 3, 0);
        is(x, 16, 0, 140, 5, 12, 3, 0);
        is(x, 11, 0, Due.NONE, Due.NONE, Due.NONE, Due.NONE, Due.NONE);
        is(x, 12, 0, 140, 5, 12, 3, 0);
        is(x, 60, 5, 105, 0, 12, 3, 0);
        is(x, 60, 18, 14, 0, 0, 2, 0);
        Calls.run(x, "change(1, 7, 11, 5)");
        is(x, 60, 0, 140, 6, 11, 3, 0);
        Calls.run(x, "change(0, 6, 60, 5)");
        is(x, 60, 0, 120, 20, 0, 0, 0);
        is(x, 15, 0, 15 * 6 + 5 * 7, 15, 2, 3, 0);
    }

    private static void changedStations() {
        IceHouse x = new IceHouse();
        Calls.run(x, "station(1, 10, 1) station(1, 20, 1) station(1, 30, 1)");
        for (int station = 0; station < 3; station++) {
            Due.is("it had", 10 + 10 * station, x.change(station, 100, 60, 30));
            Due.is("then it has", 60, x.change(station, 1, 0, 0));
            Due.is("then none", 0, x.change(station, 2, 60, 30));
        }
        is(x, 60, 0, 120, 30, 30);
        Due.is("three still", 3, x.count(6));
    }
}
