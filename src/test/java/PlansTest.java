import java.util.Arrays;

/** Holds what is searched for (season, best dust, best sales, icing, what lies ahead) against trying every way. */
public final class PlansTest {
    public static void main(String[] args) {
        int times = args.length > 0 ? Integer.parseInt(args[0]) : 1;
        for (int seed = 1; seed <= 60 * times; seed++) {
            seasons(seed);
            icings(seed);
            lookingAhead(seed);
        }
        for (int seed = 1; seed <= 12 * times; seed++) {
            dusts(seed);
            sales(seed);
        }
        Due.end();
    }

    /** Lakes with lanes of water and of ice too thin for a horse, so that the order of cutting counts. */
    private static void seasons(int seed) {
        Twins t = new Twins("season", seed);
        t.ask("frost", t.from(8, 40));
        for (int i = t.from(4, 14); i > 0; i--) {
            t.ask("cut", t.below(7) * 8 + t.below(7));
        }
        t.ask("frost", t.from(1, 5));
        for (int i = t.from(2, 8); i > 0; i--) {
            t.ask("cut", t.below(7) * 8 + t.below(7));
        }
        for (int square = 0; square < 55; square++) {
            t.ask("bars", square);
        }
        for (int who = 0; who < 3; who++) {
            t.ask("reached", who);
            t.ask("reach", t.below(64), who);
        }
        for (int round = 0; round < 2; round++) {
            int[] told = squares(t);
            for (int what = 0; what <= told.length + 1; what++) {
                t.tellAnew(told);
                t.ask("season", what);
            }
        }
    }

    private static int[] squares(Twins t) {
        int[] told = new int[t.from(3, 6)];
        int n = 0;
        for (int tries = 0; n < told.length && tries < 1000; tries++) {
            int square = t.below(7) * 8 + t.below(7);
            boolean there = false;
            for (int i = 0; i < n; i++) {
                there |= told[i] == square;
            }
            // What can't be cut now comes rarely: it would only make the rows short.
            if (!there && (t.model.bars(square) != 1 || t.onceIn(20))) {
                told[n] = square;
                n++;
            }
        }
        return Arrays.copyOf(told, Math.max(1, n));
    }

    private static void dusts(int seed) {
        Twins t = new Twins("dust", seed);
        t.fillHouse(60, t.onceIn(3) ? 4 : 16);
        t.ask("warmth", 0, t.from(1, 40));
        for (int k = 0; k < 16; k++) {
            t.ask("cover", k, t.below(11));
        }
        for (int wall = 0; wall < 4; wall++) {
            t.ask("dust", wall, t.below(11));
        }
        int n = t.below(41);
        for (int what = 0; what <= 4; what++) {
            t.ask("best", n, what);
        }
        t.ask("melts");
        t.ask("best", 40, t.below(5));
    }

    /** Few prices, so that many rows are as good as the best; blocks of all kinds and weights above one another. */
    private static void sales(int seed) {
        Twins t = new Twins("sales", seed);
        t.fillHouse(50, t.from(3, 6));
        int prices = t.onceIn(2) ? 4 : 100;
        for (int i = t.from(4, t.onceIn(10) ? 10 : 7); i > 0; i--) {
            int grade = t.onceIn(2) ? 0 : t.below(3);
            t.ask("order", grade, t.from(1, t.onceIn(3) ? 900 : 250), t.below(8), t.below(21), t.from(1, prices));
        }
        t.ask("warmth", 1, 40);
        t.ask("weeks", 1);
        int first = t.below(3);
        int[][] rows = {{0, 1, 2}, {2, 1}, {first}, {2, 0, 1}};
        for (int[] row : rows) {
            for (int what = 0; what <= 10; what++) {
                t.tellAnew(row);
                t.ask("sales", what);
            }
        }
    }

    private static void icings(int seed) {
        Twins t = new Twins("icing", seed);
        int n = t.from(2, 9);
        int most = t.onceIn(2) ? 3 : 100;
        for (int i = 0; i < n; i++) {
            t.ask("station", t.from(1, most), t.from(0, 60), t.from(0, t.onceIn(3) ? 30 : 15));
        }
        for (int round = 0; round < 6; round++) {
            int room = t.from(15, 60);
            int cakes = t.below(Math.min(room, 20) + 1);
            for (int what = -1; what < n; what++) {
                t.ask("icing", room, cakes, what);
            }
            t.ask("change", t.below(n), t.from(1, most), t.from(20, 60), t.from(0, 15));
        }
    }

    private static void lookingAhead(int seed) {
        Twins t = new Twins("ahead", seed);
        t.fillHouse(50, t.onceIn(2) ? 4 : 16);
        for (int week = 0; week < 40; week++) {
            t.ask("warmth", week, t.from(20, 40));
        }
        for (int round = 0; round < 6; round++) {
            int n = t.below(21);
            int left = t.ask("after", n);
            t.ask("lasts", Math.max(1, left));
            t.ask("lasts", left + 1);
            t.ask("lasts", t.from(1, 30000));
            checks(t, n);
            t.ask("weeks", t.from(1, 20));
            for (int what = 0; what <= 5; what++) {
                t.ask("ledger", what);
            }
        }
    }

    /** The right weights of all columns, then some of them with one spoilt. */
    private static void checks(Twins t, int n) {
        int[] weights = t.model.columnsAhead(n);
        t.tellAnew(Arrays.copyOf(weights, 16));
        t.ask("check", n);
        int spoilt = t.below(16);
        weights[spoilt]++;
        t.tellAnew(Arrays.copyOf(weights, t.from(0, 16)));
        t.ask("check", n);
    }
}
