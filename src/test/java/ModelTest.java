/** Holds the class against PlainModel in long mixed runs of calls, the same ones every time. */
public final class ModelTest {
    /** What is called, how often, and the least and most of each number; what builds a state up comes often. */
    private static final Object[][] CALLS = {
        {"frost", 14, 1, 40}, {"thaw", 3, 1, 20}, {"snow", 4, 1, 10}, {"scrape", 5, 0, 7},
        {"cell", 6, 0, 63, 0, 2}, {"reached", 3, 0, 2}, {"reach", 5, 0, 63, 0, 2},
        {"bars", 8, 0, 54}, {"cut", 40, 0, 54}, {"season", 2, -1, 7},
        {"put", 60, 0, 30, 0, 15}, {"put", 20, 0, 60, 0, 3}, {"take", 4, 0, 15},
        {"move", 7, 0, 15, 0, 15}, {"move", 7, 0, 3, 0, 3}, {"as", 8, 0, 30, 0, 3},
        {"about", 20, 0, 30, 0, 6}, {"at", 8, 0, 15, 0, 5}, {"dust", 8, 0, 3, 0, 10},
        {"cover", 8, 0, 15, 0, 10}, {"warmth", 10, 0, 30, 0, 40}, {"melts", 6},
        {"weeks", 6, 1, 4}, {"weeks", 1, 15, 20}, {"after", 5, 0, 20}, {"lasts", 4, 1, 20000},
        {"best", 1, 0, 40, 0, 4}, {"order", 12, 0, 2, 1, 400, 0, 40, 0, 20, 1, 100},
        {"why", 12, 0, 9, 0, 3}, {"serve", 5, 0, 9, 0, 15}, {"sales", 3, -1, 10},
        {"station", 8, 1, 20, 0, 60, 0, 20}, {"change", 5, 0, 5, 1, 20, 0, 60, 0, 30},
        {"icing", 6, 20, 60, 0, 20, -1, 6}, {"icing", 3, 1, 60, 0, 60, -1, 8},
        {"ledger", 8, 0, 6}, {"tell", 25, 0, 60}, {"check", 3, 0, 20},
        {"count", 8, 0, 8}, {"found", 3, 1, 5}};
    private static final int[] ODD = {
        -2, -1, 0, 6, 7, 10, 11, 16, 17, 40, 41, 55, 60, 61, 64, 100, 101,
        Integer.MIN_VALUE, Integer.MAX_VALUE};

    private final Twins twins;

    private ModelTest(int seed) {
        twins = new Twins("mixed", seed);
    }

    public static void main(String[] args) {
        int runs = args.length > 0 ? Integer.parseInt(args[0]) : 250;
        int first = args.length > 1 ? Integer.parseInt(args[1]) : 1;
        for (int seed = first; seed < first + runs; seed++) {
            new ModelTest(seed).run();
        }
        Due.end();
    }

    private void run() {
        if (!twins.onceIn(4)) {
            twins.fillHouse(30, twins.onceIn(2) ? 4 : 16);
        }
        int all = 0;
        for (Object[] call : CALLS) {
            all += (Integer) call[1];
        }
        for (int i = 0; i < 300; i++) {
            int pick = twins.below(all);
            int call = 0;
            while (pick >= (Integer) CALLS[call][1]) {
                pick -= (Integer) CALLS[call][1];
                call++;
            }
            ask(CALLS[call]);
        }
        readAll();
    }

    private void ask(Object[] call) {
        int[] numbers = new int[(call.length - 2) / 2];
        for (int i = 0; i < numbers.length; i++) {
            numbers[i] = twins.onceIn(30) ? ODD[twins.below(ODD.length)]
                    : twins.from((Integer) call[2 + 2 * i], (Integer) call[3 + 2 * i]);
        }
        twins.ask((String) call[0], numbers);
    }

    private void readAll() {
        for (int what = -1; what <= 9; what++) {
            twins.ask("count", what);
            twins.ask("ledger", what);
        }
        for (int c = 0; c < 64; c++) {
            twins.ask("cell", c, twins.below(3));
        }
        int blocks = twins.ask("count", 0);
        for (int b = 0; b < blocks; b++) {
            for (int what = 0; what <= 6; what++) {
                twins.ask("about", b, what);
            }
        }
        for (int k = 0; k <= 6; k++) {
            twins.ask("found", k);
        }
    }
}
