/** What the tests share: answers that are due, findings by name, and lakes and houses made ready. */
final class Due {
    static final int BEYOND = -1000001;
    static final int NONE = -1000002;
    static final int STATE = -1000003;
    static final int FULL = -1000004;
    static final int KIND = -1000005;

    private static int asked = 0;
    private static int wrong = 0;

    private Due() {
    }

    static void is(String call, int want, int got) {
        asked++;
        if (got != want) {
            wrong++;
            System.out.println(call + " answered " + got + ", due is " + want);
        }
    }

    static void yes(String what, boolean holds) {
        is(what, 1, holds ? 1 : 0);
    }

    static void end() {
        System.out.println(asked + " answers asked, " + wrong + " not as due");
        if (wrong != 0 || asked == 0) {
            System.exit(1);
        }
    }

    static void tell(IceHouse x, int... numbers) {
        for (int v : numbers) {
            x.tell(v);
        }
    }

    static IceHouse frozen(int... frosts) {
        IceHouse x = new IceHouse();
        for (int f : frosts) {
            x.frost(f);
        }
        return x;
    }

    /** Cuts a block of four cells of one thick (10 .. 28): 20 times that is its weight; a shelf below 12. */
    static int block(IceHouse x, int thick, boolean milky) {
        openWater(x);
        x.frost(40);
        if (milky) {
            x.snow(1);
            x.frost(1);
        }
        lower(x, 28 - thick);
        return x.cut(0);
    }

    /** Cuts one plain block, of which one cell alone is milked; its weight is 770. */
    static int plainBlock(IceHouse x) {
        openWater(x);
        x.frost(40);
        x.snow(1);
        x.frost(1);
        x.thaw(1);
        x.cut(0);
        x.cut(16);
        x.frost(40);
        x.cut(10);
        x.frost(40);
        return x.cut(1);
    }

    static void openWater(IceHouse x) {
        lower(x, 60);
    }

    private static void lower(IceHouse x, int by) {
        for (int left = by; left > 0; left -= 20) {
            x.thaw(Math.min(20, left));
        }
    }
}
