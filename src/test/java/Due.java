/** What the tests share: answers that are due, findings by name, and lakes and houses made ready. */
final class Due {
    static final int BEYOND = -1000001;
    static final int NONE = -1000002;
    static final int STATE = -1000003;
    static final int FULL = -1000004;
    static final int KIND = -1000005;

    private static int asked = 0;
    private static int wrong = 0;

    private Due() {
    }

    static void is(String call, int want, int got) {
        asked++;
        if (got != want) {
            wrong++;
            System.out.println(call + " answered " + got + ", due is " + want);
        }
    }

    static void yes(String what, boolean holds) {
        is(what, 1, holds ? 1 : 0);
    }

    static void end() {
        System.out.println(asked + " answers asked, " + wrong + " not as due");
        if (wrong != 0 || asked == 0) {
            System.exit(1);
        }
    }

    static void tell(IceHouse x, int... numbers) {
        for (int v : numbers) {
            x.tell(v);
        }
    }

    static IceHouse frozen(int... frosts) {
        IceHouse x = new IceHouse();
        for (int f : frosts) {
            x.frost(f);
        }
        return x;
    }
}
