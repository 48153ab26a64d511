import java.util.Arrays;

/** The class and its plain model side by side: every call goes to both, and their answers must be the same. */
final class Twins {
    final PlainModel model = new PlainModel();
    private final IceHouse real = new IceHouse();
    private final String name;
    private long state;

    Twins(String name, int seed) {
        this.name = name + " " + seed;
        this.state = seed * 7919L + 17;
    }

    /** The same numbers in every run: below n, from 0 on. */
    int below(int n) {
        state = state * 6364136223846793005L + 1442695040888963407L;
        return (int) ((state >>> 33) % n);
    }

    int from(int least, int most) {
        return least + below(most - least + 1);
    }

    boolean onceIn(int n) {
        return below(n) == 0;
    }

    int ask(String call, int... numbers) {
        int want = Calls.ask(model, call, numbers);
        int got = Calls.ask(real, call, numbers);
        Due.is(name + ": " + call + Arrays.toString(numbers), want, got);
        return want;
    }

    void tellAnew(int... numbers) {
        ask("check", 0);
        for (int v : numbers) {
            ask("tell", v);
        }
    }

    /** Cuts blocks of all kinds and puts them into the columns 0 .. columns - 1. */
    void fillHouse(int cuts, int columns) {
        for (int i = 0; i < cuts; i++) {
            readyLake(below(4));
            ask("cut", below(7) * 8 + below(7));
            ask("put", model.count(0) - 1, below(columns));
        }
    }

    /** A lake that gives shelves (0), clear blocks (1), milky ones (2), or whatever is left of it (3). */
    private void readyLake(int kind) {
        for (int i = 0; i < 3 && kind < 2; i++) {
            ask("thaw", 20);
        }
        ask("frost", kind == 0 ? from(5, 7) : from(8, 40));
        if (kind == 2) {
            ask("snow", from(1, 10));
            ask("frost", from(1, 40));
            ask("thaw", from(1, 8));
        }
    }
}
