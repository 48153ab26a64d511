import java.util.Arrays;

/**
 * An ice house from lake to railway. Every call answers a number; an answer below LOW is a finding.
 * All rows are made once, with the object, and used again by every call.
 */
public final class IceHouse {
    private static final int LOW = -1000000;
    private static final int BEYOND = 1;
    private static final int NONE = 2;
    private static final int STATE = 3;
    private static final int FULL = 4;
    private static final int KIND = 5;

    private static final int ROWS = 8;
    private static final int CELLS = 64;
    private static final int MAX_THICK = 60;
    private static final int MAX_SNOW = 30;
    private static final int HORSE = 1;
    private static final int TEAM = 2;
    private static final int[] BEARING_THICK = {4, 10, 18};
    private static final int CUTTING_THICK = 8;
    private static final int CLEAR_THICKS = 48;
    private static final int LAST_SQUARE = 54;
    private static final int THE_THICK_BARS = 1;
    private static final int NO_HORSE_COMES = 2;
    private static final long FIRST_ROW = 0xFFL;
    private static final long FIRST_PLACES = 0x0101010101010101L;
    private static final long LAST_PLACES = 0x8080808080808080L;
    private static final long SQUARE_AT_0 = 0x0303L;
    private static final int MAX_SQUARES = 6;

    private static final int MAX_BLOCKS = 60;
    private static final int PLAIN = 0;
    private static final int CLEAR = 1;
    private static final int MILKY = 2;
    private static final int SHELF = 3;
    private static final int KINDS = 4;
    private static final int[] KIND_ABOVE = {-1, PLAIN, PLAIN, CLEAR};
    private static final int[] MELT_RATE = {4, 3, 6, 3};
    private static final int ON_SHORE = 0;
    private static final int IN_HOUSE = 1;
    private static final int GONE = 2;

    private static final int COLUMNS = 16;
    private static final int PLACES = 4;
    private static final int LEVELS = 6;
    private static final int WALLS = 4;
    private static final int MAX_DUST = 10;
    private static final int OPEN_TENTHS = 10;
    private static final int WEEKS = 100;
    private static final int MAX_WARMTH = 40;
    private static final int FIRST_WARMTH = 10;
    private static final int MAX_WEEKS_AHEAD = 20;

    private static final int MAX_ORDERS = 10;
    private static final int MAX_SALES = 4;
    private static final int SALES_COLUMNS = 3;

    private static final int MAX_STATIONS = 9;
    private static final int MAX_ROOM = 60;
    private static final int MAX_WAITING = 16;

    private final Lake lake = new Lake();
    private final Season harvest = new Season();
    private final Shelter shelter = new Shelter();
    private final House house = new House(shelter);
    /** What lies ahead is tried on this second house, so that the first one stays as it is. */
    private final House trial = new House(shelter);
    private final DustPlan dustPlan = new DustPlan();
    private final Orders orders = new Orders(house);
    private final SalesPlan salesPlan = new SalesPlan(house, orders);
    private final Railway railway = new Railway();
    private final Waiting waiting = new Waiting();
    private final int[] findings = new int[KIND + 1];

    public IceHouse() {
    }

    // ---- the lake

    public int frost(int f) {
        if (!within(f, 1, 40)) {
            return finding(BEYOND);
        }
        lake.freeze(f);
        return Long.bitCount(lake.bearing(HORSE));
    }

    public int thaw(int t) {
        if (!within(t, 1, 20)) {
            return finding(BEYOND);
        }
        lake.soften(t);
        return lake.frozenCells();
    }

    public int snow(int n) {
        if (!within(n, 1, 10)) {
            return finding(BEYOND);
        }
        return lake.snowOver(n);
    }

    public int scrape(int row) {
        if (!within(row, 0, ROWS - 1)) {
            return finding(BEYOND);
        }
        return lake.clearRow(row);
    }

    public int cell(int c, int what) {
        if (!within(c, 0, CELLS - 1)) {
            return finding(BEYOND);
        }
        switch (what) {
            case 0:
                return lake.thick[c];
            case 1:
                return lake.snowOn[c];
            case 2:
                return lake.milked[c] ? 1 : 0;
            default:
                return finding(BEYOND);
        }
    }

    public int reached(int who) {
        if (!within(who, 0, TEAM)) {
            return finding(BEYOND);
        }
        return Long.bitCount(Lake.reachedOver(lake.bearing(who)));
    }

    public int reach(int c, int who) {
        if (!within(c, 0, CELLS - 1) || !within(who, 0, TEAM)) {
            return finding(BEYOND);
        }
        return (Lake.reachedOver(lake.bearing(who)) >>> c & 1L) != 0 ? 1 : 0;
    }

    public int bars(int square) {
        if (!Lake.isSquare(square)) {
            return finding(BEYOND);
        }
        return lake.barTo(square);
    }

    public int cut(int square) {
        if (!Lake.isSquare(square)) {
            return finding(BEYOND);
        }
        if (lake.barTo(square) != 0) {
            return finding(STATE);
        }
        if (house.blocks >= MAX_BLOCKS) {
            return finding(FULL);
        }
        int block = house.newBlock(lake.kindOf(square), 5 * lake.thicksOf(square));
        lake.open(square);
        return block;
    }

    public int season(int what) {
        if (what < 0) {
            return finding(BEYOND);
        }
        if (!harvest.takeOver(waiting)) {
            return finding(STATE);
        }
        harvest.plan(lake);
        if (what == 0) {
            return harvest.length;
        }
        return what <= harvest.length ? harvest.row[what - 1] : finding(NONE);
    }

    // ---- the house

    public int put(int block, int column) {
        if (!house.hasBlock(block) || !isColumn(column)) {
            return finding(BEYOND);
        }
        if (house.where[block] != ON_SHORE || house.isFull(column)) {
            return finding(STATE);
        }
        house.bringIn(block, column);
        return house.height[column] - 1;
    }

    public int take(int column) {
        if (!isColumn(column)) {
            return finding(BEYOND);
        }
        if (house.isEmpty(column)) {
            return finding(NONE);
        }
        return house.throwOut(column);
    }

    public int move(int column, int to) {
        if (!isColumn(column) || !isColumn(to) || column == to) {
            return finding(BEYOND);
        }
        if (house.isEmpty(column)) {
            return finding(NONE);
        }
        if (house.isFull(to)) {
            return finding(STATE);
        }
        int block = house.liftTop(column);
        house.layOn(block, to);
        return block;
    }

    public int as(int block, int kind) {
        if (!house.hasBlock(block) || !within(kind, 0, KINDS - 1)) {
            return finding(BEYOND);
        }
        return isUnder(house.kindOf[block], kind) ? house.weight[block] : finding(KIND);
    }

    public int about(int block, int what) {
        if (!house.hasBlock(block)) {
            return finding(BEYOND);
        }
        int slot = house.slotOf(block);
        switch (what) {
            case 0:
                return house.kindOf[block];
            case 1:
                return house.weight[block];
            case 2:
                return house.where[block];
            case 3:
                return slot < 0 ? -1 : slot / LEVELS;
            case 4:
                return slot < 0 ? -1 : slot % LEVELS;
            case 5:
                return slot < 0 ? 0 : house.loadOver(slot / LEVELS, slot % LEVELS);
            case 6:
                return slot < 0 ? 0 : house.meltAt(slot / LEVELS, slot % LEVELS);
            default:
                return finding(BEYOND);
        }
    }

    public int at(int column, int level) {
        if (!isColumn(column) || !within(level, 0, LEVELS - 1)) {
            return finding(BEYOND);
        }
        int block = house.blockAt(column, level);
        return block < 0 ? finding(NONE) : block;
    }

    public int dust(int wall, int n) {
        if (!within(wall, 0, WALLS - 1) || !within(n, 0, MAX_DUST)) {
            return finding(BEYOND);
        }
        return exchange(shelter.dustOn, wall, n);
    }

    public int cover(int column, int n) {
        if (!isColumn(column) || !within(n, 0, MAX_DUST)) {
            return finding(BEYOND);
        }
        return exchange(shelter.coverOn, column, n);
    }

    public int warmth(int week, int w) {
        if (!within(week, 0, WEEKS - 1) || !within(w, 0, MAX_WARMTH)) {
            return finding(BEYOND);
        }
        return exchange(shelter.warmthIn, week, w);
    }

    public int melts() {
        return house.allMelts();
    }

    public int weeks(int n) {
        if (!within(n, 1, MAX_WEEKS_AHEAD)) {
            return finding(BEYOND);
        }
        if (house.week + n > WEEKS) {
            return finding(FULL);
        }
        house.passWeeks(n);
        return house.allWeight();
    }

    public int after(int n) {
        if (!within(n, 0, MAX_WEEKS_AHEAD)) {
            return finding(BEYOND);
        }
        trial.becomeLike(house);
        trial.passWeeks(n);
        return trial.allWeight();
    }

    public int lasts(int v) {
        if (!within(v, 1, 100000)) {
            return finding(BEYOND);
        }
        trial.becomeLike(house);
        for (int n = 0; n <= MAX_WEEKS_AHEAD; n++) {
            if (trial.allWeight() < v) {
                return n;
            }
            trial.passWeeks(1);
        }
        return finding(NONE);
    }

    public int best(int n, int what) {
        if (!within(n, 0, WALLS * MAX_DUST) || !within(what, 0, WALLS)) {
            return finding(BEYOND);
        }
        dustPlan.plan(house, n);
        return what == 0 ? dustPlan.leastMelts : dustPlan.layer[what - 1];
    }

    // ---- orders

    public int order(int grade, int weight, int week, int hours, int price) {
        boolean asTold = within(grade, 0, 2) && within(weight, 1, 2000) && within(week, 0, WEEKS)
                && within(hours, 0, 20) && within(price, 1, 1000);
        if (!asTold) {
            return finding(BEYOND);
        }
        if (orders.size >= MAX_ORDERS) {
            return finding(FULL);
        }
        return orders.enter(grade, weight, week, hours, price);
    }

    public int why(int order, int column) {
        if (!orders.has(order) || !isColumn(column)) {
            return finding(BEYOND);
        }
        return orders.hindrance(order, house.topOf(column));
    }

    public int serve(int order, int column) {
        if (!orders.has(order) || !isColumn(column)) {
            return finding(BEYOND);
        }
        if (orders.hindrance(order, house.topOf(column)) != 0) {
            return finding(STATE);
        }
        return orders.fulfil(order, column);
    }

    public int sales(int what) {
        if (what < 0) {
            return finding(BEYOND);
        }
        if (!salesPlan.takeOver(waiting)) {
            return finding(STATE);
        }
        salesPlan.plan();
        if (what == 0) {
            return salesPlan.bestPrices;
        }
        if (what == 1) {
            return salesPlan.bestLength;
        }
        int i = (what - 2) / 2;
        if (i >= salesPlan.bestLength) {
            return finding(NONE);
        }
        return what % 2 == 0 ? salesPlan.bestOrders[i] : salesPlan.columns[salesPlan.bestPositions[i]];
    }

    // ---- the railway

    public int station(int price, int cakes, int way) {
        if (!isStation(price, cakes, way)) {
            return finding(BEYOND);
        }
        if (railway.size >= MAX_STATIONS) {
            return finding(FULL);
        }
        return railway.enter(price, cakes, way);
    }

    public int change(int station, int price, int cakes, int way) {
        if (!within(station, 0, railway.size - 1) || !isStation(price, cakes, way)) {
            return finding(BEYOND);
        }
        int had = railway.cakesAt[station];
        railway.describe(station, price, cakes, way);
        return had;
    }

    public int icing(int room, int cakes, int what) {
        if (!within(room, 1, MAX_ROOM) || !within(cakes, 0, room)) {
            return finding(BEYOND);
        }
        if (railway.size < 2) {
            return finding(STATE);
        }
        if (!within(what, -1, railway.size - 2)) {
            return finding(BEYOND);
        }
        railway.plan(room);
        int cost = railway.costFrom(cakes);
        if (cost < 0) {
            return finding(NONE);
        }
        return what < 0 ? cost : railway.boughtAt(what, cakes);
    }

    // ---- the ledger

    public int ledger(int what) {
        switch (what) {
            case 0:
                return house.broughtIn;
            case 1:
                return house.melted;
            case 2:
                return house.broken;
            case 3:
                return house.sold;
            case 4:
                return house.thrown;
            case 5:
                return house.allWeight();
            case 6:
                return orders.takings;
            default:
                return finding(BEYOND);
        }
    }

    // ---- what is told

    public int tell(int v) {
        if (waiting.size >= MAX_WAITING) {
            return finding(FULL);
        }
        return waiting.enter(v);
    }

    public int check(int n) {
        if (!within(n, 0, MAX_WEEKS_AHEAD)) {
            waiting.clear();
            return finding(BEYOND);
        }
        trial.becomeLike(house);
        trial.passWeeks(n);
        int wrong = waiting.firstWrong(trial);
        waiting.clear();
        return wrong;
    }

    public int count(int what) {
        switch (what) {
            case 0:
                return house.blocks;
            case 1:
                return house.blocksWhere(ON_SHORE);
            case 2:
                return house.blocksWhere(IN_HOUSE);
            case 3:
                return orders.size;
            case 4:
                return orders.servedSoFar;
            case 5:
                return house.week;
            case 6:
                return railway.size;
            case 7:
                return waiting.size;
            case 8:
                return lake.frozenCells();
            default:
                return finding(BEYOND);
        }
    }

    public int found(int k) {
        return within(k, BEYOND, KIND) ? findings[k] : finding(BEYOND);
    }

    // ---- what all share

    private int finding(int k) {
        findings[k]++;
        return LOW - k;
    }

    private static boolean within(int v, int least, int most) {
        return v >= least && v <= most;
    }

    private static boolean isColumn(int column) {
        return within(column, 0, COLUMNS - 1);
    }

    private static boolean isStation(int price, int cakes, int way) {
        return within(price, 1, 100) && within(cakes, 0, 60) && within(way, 0, 30);
    }

    private static boolean isUnder(int kind, int above) {
        int k = kind;
        for (int i = 0; i < KINDS && within(k, 0, KINDS - 1); i++) {
            if (k == above) {
                return true;
            }
            k = KIND_ABOVE[k];
        }
        return false;
    }

    private static int exchange(int[] row, int i, int value) {
        int was = row[i];
        row[i] = value;
        return was;
    }

    /** Sets of cells are longs, bit c for cell c: a whole flood then takes a few shifts a step. */
    private static final class Lake {
        final int[] thick = new int[CELLS];
        final int[] snowOn = new int[CELLS];
        final boolean[] milked = new boolean[CELLS];

        void freeze(int f) {
            for (int c = 0; c < CELLS; c++) {
                int square = thick[c] * thick[c] + f * 40 / (2 + snowOn[c]);
                thick[c] = rootUpFrom(thick[c], square);
                if (snowOn[c] > 0) {
                    milked[c] = true;
                }
            }
        }

        private static int rootUpFrom(int least, int square) {
            int root = least;
            while (root < MAX_THICK && (root + 1) * (root + 1) <= square) {
                root++;
            }
            return root;
        }

        void soften(int t) {
            for (int c = 0; c < CELLS; c++) {
                thick[c] = Math.max(0, thick[c] - t);
                snowOn[c] = 0;
                milked[c] = milked[c] && thick[c] > 0;
            }
        }

        int snowOver(int n) {
            int all = 0;
            for (int c = 0; c < CELLS; c++) {
                if (thick[c] > 0) {
                    snowOn[c] = Math.min(MAX_SNOW, snowOn[c] + n);
                }
                all += snowOn[c];
            }
            return all;
        }

        int clearRow(int row) {
            int cleared = 0;
            for (int c = row * ROWS; c < row * ROWS + ROWS; c++) {
                cleared += exchange(snowOn, c, 0);
            }
            return cleared;
        }

        int frozenCells() {
            return Long.bitCount(cellsOf(1));
        }

        long bearing(int who) {
            return cellsOf(BEARING_THICK[who]);
        }

        long cellsOf(int leastThick) {
            long cells = 0;
            for (int c = 0; c < CELLS; c++) {
                if (thick[c] >= leastThick) {
                    cells |= 1L << c;
                }
            }
            return cells;
        }

        static long reachedOver(long bearing) {
            long reached = bearing & FIRST_ROW;
            for (int step = 0; step < CELLS; step++) {
                long next = (reached | beside(reached)) & bearing;
                if (next == reached) {
                    break;
                }
                reached = next;
            }
            return reached;
        }

        private static long beside(long cells) {
            return cells << ROWS | cells >>> ROWS
                    | cells << 1 & ~FIRST_PLACES | cells >>> 1 & ~LAST_PLACES;
        }

        static boolean isSquare(int square) {
            return within(square, 0, LAST_SQUARE) && square % ROWS < ROWS - 1;
        }

        static long cellsOfSquare(int square) {
            return SQUARE_AT_0 << square;
        }

        int barTo(int square) {
            return barAmong(cellsOfSquare(square), cellsOf(CUTTING_THICK), bearing(HORSE));
        }

        static int barAmong(long square, long thickEnough, long horse) {
            if ((square & ~thickEnough) != 0) {
                return THE_THICK_BARS;
            }
            long shore = beside(square) & ~square;
            return (shore & reachedOver(horse & ~square)) != 0 ? 0 : NO_HORSE_COMES;
        }

        int thicksOf(int square) {
            return thick[square] + thick[square + 1] + thick[square + ROWS] + thick[square + ROWS + 1];
        }

        int kindOf(int square) {
            int milky = milk(square) + milk(square + 1) + milk(square + ROWS) + milk(square + ROWS + 1);
            if (milky >= 2) {
                return MILKY;
            }
            if (milky == 1) {
                return PLAIN;
            }
            return thicksOf(square) < CLEAR_THICKS ? SHELF : CLEAR;
        }

        private int milk(int c) {
            return milked[c] ? 1 : 0;
        }

        void open(int square) {
            openCell(square);
            openCell(square + 1);
            openCell(square + ROWS);
            openCell(square + ROWS + 1);
        }

        private void openCell(int c) {
            thick[c] = 0;
            snowOn[c] = 0;
            milked[c] = false;
        }
    }

    /**
     * What may be cut next depends on which squares are cut already, not on their order,
     * so the longest row is known for each set of squares: bit i for the i-th that was told.
     */
    private static final class Season {
        final int[] row = new int[MAX_SQUARES];
        int length;
        private final int[] squares = new int[MAX_SQUARES];
        private int told;
        private final int[] longest = new int[1 << MAX_SQUARES];
        /** With which square such a row goes on, where there is one. */
        private final int[] next = new int[1 << MAX_SQUARES];
        private long thickEnough;
        private long horse;

        /** Whether the numbers that waited are squares to plan with. */
        boolean takeOver(Waiting waiting) {
            told = waiting.handOver(squares);
            for (int i = 0; i < told; i++) {
                if (!Lake.isSquare(squares[i])) {
                    return false;
                }
            }
            return told > 0;
        }

        void plan(Lake lake) {
            thickEnough = lake.cellsOf(CUTTING_THICK);
            horse = lake.bearing(HORSE);
            // Larger sets first: each set is asked through those with one square more.
            for (int cut = (1 << told) - 1; cut >= 0; cut--) {
                askBehind(cut);
            }
            walk();
        }

        private void askBehind(int cut) {
            longest[cut] = 0;
            for (int i = 0; i < told; i++) {
                // An equally long row stays behind the one whose square was told first.
                if (mayFollow(i, cut) && 1 + longest[cut | 1 << i] > longest[cut]) {
                    longest[cut] = 1 + longest[cut | 1 << i];
                    next[cut] = i;
                }
            }
        }

        private boolean mayFollow(int i, int cut) {
            if ((cut >> i & 1) != 0) {
                return false;
            }
            long open = openCells(cut);
            return Lake.barAmong(Lake.cellsOfSquare(squares[i]), thickEnough & ~open, horse & ~open) == 0;
        }

        private long openCells(int cut) {
            long open = 0;
            for (int i = 0; i < told; i++) {
                if ((cut >> i & 1) != 0) {
                    open |= Lake.cellsOfSquare(squares[i]);
                }
            }
            return open;
        }

        private void walk() {
            length = longest[0];
            int cut = 0;
            for (int step = 0; step < length; step++) {
                row[step] = squares[next[cut]];
                cut |= 1 << next[cut];
            }
        }
    }

    /** What keeps the warmth from the house: dust at the walls, covers; and the warmth itself. */
    private static final class Shelter {
        final int[] dustOn = new int[WALLS];
        final int[] coverOn = new int[COLUMNS];
        final int[] warmthIn = new int[WEEKS];

        Shelter() {
            Arrays.fill(warmthIn, FIRST_WARMTH);
        }

        int warmthOf(int week) {
            return within(week, 0, WEEKS - 1) ? warmthIn[week] : FIRST_WARMTH;
        }

        int wallTenths(int column) {
            return tenthsAt(rowWall(column)) + tenthsAt(sideWall(column));
        }

        private int tenthsAt(int wall) {
            return wall < 0 ? 0 : OPEN_TENTHS - dustOn[wall];
        }

        /** The wall ahead of a column's row or behind it; -1: none. */
        static int rowWall(int column) {
            int row = column / PLACES;
            return row == 0 ? 0 : row == PLACES - 1 ? 1 : -1;
        }

        /** The wall left of a column's place or right of it; -1: none. */
        static int sideWall(int column) {
            int place = column % PLACES;
            return place == 0 ? 2 : place == PLACES - 1 ? 3 : -1;
        }
    }

    /** All blocks, the columns they lie in, the week, and what became of their weight. */
    private static final class House {
        int blocks;
        final int[] kindOf = new int[MAX_BLOCKS];
        final int[] weight = new int[MAX_BLOCKS];
        final int[] where = new int[MAX_BLOCKS];
        final int[] height = new int[COLUMNS];
        int week;
        int broughtIn;
        int melted;
        int broken;
        int sold;
        int thrown;
        final Shelter shelter;
        /** Slot column * LEVELS + level holds the block there, up to the column's height. */
        private final int[] pile = new int[COLUMNS * LEVELS];

        House(Shelter shelter) {
            this.shelter = shelter;
        }

        void becomeLike(House other) {
            blocks = other.blocks;
            week = other.week;
            System.arraycopy(other.kindOf, 0, kindOf, 0, MAX_BLOCKS);
            System.arraycopy(other.weight, 0, weight, 0, MAX_BLOCKS);
            System.arraycopy(other.where, 0, where, 0, MAX_BLOCKS);
            System.arraycopy(other.height, 0, height, 0, COLUMNS);
            System.arraycopy(other.pile, 0, pile, 0, COLUMNS * LEVELS);
        }

        int newBlock(int kind, int itsWeight) {
            kindOf[blocks] = kind;
            weight[blocks] = itsWeight;
            where[blocks] = ON_SHORE;
            blocks++;
            return blocks - 1;
        }

        boolean hasBlock(int block) {
            return within(block, 0, blocks - 1);
        }

        int blocksWhere(int place) {
            int n = 0;
            for (int b = 0; b < blocks; b++) {
                if (where[b] == place) {
                    n++;
                }
            }
            return n;
        }

        boolean isEmpty(int column) {
            return height[column] == 0;
        }

        boolean isFull(int column) {
            return height[column] >= LEVELS;
        }

        /** The block at a level; -1: none. */
        int blockAt(int column, int level) {
            return within(level, 0, height[column] - 1) ? pile[column * LEVELS + level] : -1;
        }

        int topOf(int column) {
            return blockAt(column, height[column] - 1);
        }

        /** Where in the pile a block lies; -1: it isn't in the house. */
        int slotOf(int block) {
            if (where[block] != IN_HOUSE) {
                return -1;
            }
            for (int slot = 0; slot < COLUMNS * LEVELS; slot++) {
                if (blockAt(slot / LEVELS, slot % LEVELS) == block) {
                    return slot;
                }
            }
            return -1;
        }

        void bringIn(int block, int column) {
            where[block] = IN_HOUSE;
            broughtIn += weight[block];
            layOn(block, column);
        }

        void layOn(int block, int column) {
            pile[column * LEVELS + height[column]] = block;
            height[column]++;
            breakShelves(column);
        }

        int liftTop(int column) {
            int block = topOf(column);
            removeAt(column, height[column] - 1);
            return block;
        }

        int throwOut(int column) {
            int block = liftTop(column);
            thrown += weight[block];
            letGo(block);
            return block;
        }

        void sellTop(int column, int comes) {
            int block = liftTop(column);
            sold += comes;
            melted += weight[block] - comes;
            letGo(block);
        }

        private void letGo(int block) {
            weight[block] = 0;
            where[block] = GONE;
        }

        private void removeAt(int column, int level) {
            int first = column * LEVELS;
            for (int slot = first + level; slot < first + height[column] - 1; slot++) {
                pile[slot] = pile[slot + 1];
            }
            height[column]--;
        }

        int loadOver(int column, int level) {
            int load = 0;
            for (int above = level + 1; above < height[column]; above++) {
                load += weight[pile[column * LEVELS + above]];
            }
            return load;
        }

        int columnWeight(int column) {
            return loadOver(column, -1);
        }

        int allWeight() {
            int all = 0;
            for (int column = 0; column < COLUMNS; column++) {
                all += columnWeight(column);
            }
            return all;
        }

        /** Once from below is enough: a shelf that breaks takes load only from those asked before it. */
        private void breakShelves(int column) {
            int level = 0;
            for (int asked = 0; asked < LEVELS; asked++) {
                int block = blockAt(column, level);
                if (block >= 0 && breaksAt(column, level)) {
                    broken += weight[block];
                    removeAt(column, level);
                    letGo(block);
                } else {
                    level++;
                }
            }
        }

        private boolean breaksAt(int column, int level) {
            int block = blockAt(column, level);
            return kindOf[block] == SHELF && loadOver(column, level) > 2 * weight[block];
        }

        int meltAt(int column, int level) {
            return meltBehind(column, level, shelter.wallTenths(column));
        }

        /** The melt of a block whose walls together let in so many tenths. */
        private int meltBehind(int column, int level, int wallTenths) {
            int block = blockAt(column, level);
            int open = shelter.warmthOf(week) * (openTenths(column, level) + wallTenths);
            return Math.min(weight[block], open * MELT_RATE[kindOf[block]] / 400);
        }

        /** How far a block is open at its top and towards other columns, in tenths of a face. */
        private int openTenths(int column, int level) {
            int row = column / PLACES;
            int place = column % PLACES;
            int tenths = level == height[column] - 1 ? OPEN_TENTHS - shelter.coverOn[column] : 0;
            if (row > 0) {
                tenths += sideTenths(column - PLACES, level);
            }
            if (row < PLACES - 1) {
                tenths += sideTenths(column + PLACES, level);
            }
            if (place > 0) {
                tenths += sideTenths(column - 1, level);
            }
            if (place < PLACES - 1) {
                tenths += sideTenths(column + 1, level);
            }
            return tenths;
        }

        private int sideTenths(int beside, int level) {
            return height[beside] > level ? 0 : OPEN_TENTHS;
        }

        int columnMelts(int column, int wallTenths) {
            int all = 0;
            for (int level = 0; level < height[column]; level++) {
                all += meltBehind(column, level, wallTenths);
            }
            return all;
        }

        int allMelts() {
            int all = 0;
            for (int column = 0; column < COLUMNS; column++) {
                all += columnMelts(column, shelter.wallTenths(column));
            }
            return all;
        }

        void passWeeks(int n) {
            for (int i = 0; i < n; i++) {
                meltAll();
                for (int column = 0; column < COLUMNS; column++) {
                    dropMelted(column);
                    breakShelves(column);
                }
                week++;
            }
        }

        /** No block is taken away meanwhile, so each melts as if all did at once. */
        private void meltAll() {
            for (int column = 0; column < COLUMNS; column++) {
                for (int level = 0; level < height[column]; level++) {
                    int melt = meltAt(column, level);
                    weight[blockAt(column, level)] -= melt;
                    melted += melt;
                }
            }
        }

        private void dropMelted(int column) {
            for (int level = height[column] - 1; level >= 0; level--) {
                int block = blockAt(column, level);
                if (weight[block] == 0) {
                    removeAt(column, level);
                    letGo(block);
                }
            }
        }
    }

    /**
     * A column's melts depend on the dust of its own walls alone, at a corner on the sum of two,
     * so all ways to lay it are tried on sums of these few tables.
     */
    private static final class DustPlan {
        int leastMelts;
        final int[] layer = new int[WALLS];
        private int leastDust;
        private int inner;
        /** Melts of the columns at one wall alone, by its dust. */
        private final int[][] atWall = new int[WALLS][MAX_DUST + 1];
        /** Melts of the four corner columns, by the dust of both their walls together. */
        private final int[][] atCorner = new int[WALLS][2 * MAX_DUST + 1];
        private final int[] fewestOnWall3 = new int[MAX_DUST + 1];

        void plan(House house, int most) {
            clearTables();
            for (int column = 0; column < COLUMNS; column++) {
                addColumn(house, column, Shelter.rowWall(column), Shelter.sideWall(column));
            }
            for (int d0 = 0; d0 <= MAX_DUST; d0++) {
                for (int d1 = 0; d1 <= MAX_DUST && d0 + d1 <= most; d1++) {
                    trySides(d0, d1, most - d0 - d1);
                }
            }
        }

        private void clearTables() {
            leastMelts = Integer.MAX_VALUE;
            leastDust = Integer.MAX_VALUE;
            inner = 0;
            for (int wall = 0; wall < WALLS; wall++) {
                Arrays.fill(atWall[wall], 0);
            }
        }

        private void addColumn(House house, int column, int rowWall, int sideWall) {
            if (rowWall >= 0 && sideWall >= 0) {
                int corner = 2 * rowWall + sideWall - 2;
                for (int d = 0; d <= 2 * MAX_DUST; d++) {
                    atCorner[corner][d] = house.columnMelts(column, 2 * OPEN_TENTHS - d);
                }
            } else if (rowWall >= 0 || sideWall >= 0) {
                int wall = Math.max(rowWall, sideWall);
                for (int d = 0; d <= MAX_DUST; d++) {
                    atWall[wall][d] += house.columnMelts(column, OPEN_TENTHS - d);
                }
            } else {
                inner += house.columnMelts(column, 0);
            }
        }

        private void trySides(int d0, int d1, int rest) {
            int ahead = inner + atWall[0][d0] + atWall[1][d1];
            fillFewest(d0, d1);
            for (int d2 = 0; d2 <= MAX_DUST && d2 <= rest; d2++) {
                int d3 = fewestOnWall3[Math.min(MAX_DUST, rest - d2)];
                int all = ahead + sideMelts(2, d0, d1, d2) + sideMelts(3, d0, d1, d3);
                int together = d0 + d1 + d2 + d3;
                // Ways come with the least on wall 0, 1, 2 first, so an equal one stays behind.
                if (all < leastMelts || all == leastMelts && together < leastDust) {
                    keep(all, d0, d1, d2, d3);
                }
            }
        }

        /** For each most that wall 3 may get: the least that saves there as much as any. */
        private void fillFewest(int d0, int d1) {
            int fewest = 0;
            for (int d = 0; d <= MAX_DUST; d++) {
                if (sideMelts(3, d0, d1, d) < sideMelts(3, d0, d1, fewest)) {
                    fewest = d;
                }
                fewestOnWall3[d] = fewest;
            }
        }

        private int sideMelts(int wall, int d0, int d1, int d) {
            return atWall[wall][d] + atCorner[wall - 2][d0 + d] + atCorner[wall][d1 + d];
        }

        private void keep(int all, int d0, int d1, int d2, int d3) {
            leastMelts = all;
            leastDust = d0 + d1 + d2 + d3;
            layer[0] = d0;
            layer[1] = d1;
            layer[2] = d2;
            layer[3] = d3;
        }
    }

    private static final class Orders {
        int size;
        int servedSoFar;
        int takings;
        final int[] price = new int[MAX_ORDERS];
        private final House house;
        private final int[] grade = new int[MAX_ORDERS];
        private final int[] leastWeight = new int[MAX_ORDERS];
        private final int[] lastWeek = new int[MAX_ORDERS];
        private final int[] hours = new int[MAX_ORDERS];
        private final boolean[] served = new boolean[MAX_ORDERS];

        Orders(House house) {
            this.house = house;
        }

        boolean has(int order) {
            return within(order, 0, size - 1);
        }

        int enter(int itsGrade, int weight, int week, int itsHours, int itsPrice) {
            grade[size] = itsGrade;
            leastWeight[size] = weight;
            lastWeek[size] = week;
            hours[size] = itsHours;
            price[size] = itsPrice;
            size++;
            return size - 1;
        }

        /** Why an order can't be served with a block (-1: there is none); 0: it can. */
        int hindrance(int order, int block) {
            if (served[order]) {
                return 1;
            }
            if (house.week > lastWeek[order]) {
                return 2;
            }
            if (block < 0) {
                return 3;
            }
            if (!isOfGrade(house.kindOf[block], grade[order])) {
                return 4;
            }
            return whatComes(order, block) < leastWeight[order] ? 5 : 0;
        }

        private static boolean isOfGrade(int kind, int itsGrade) {
            return itsGrade == 0 || itsGrade == 1 && !isUnder(kind, MILKY) || isUnder(kind, CLEAR);
        }

        private int whatComes(int order, int block) {
            int lost = hours[order] * house.shelter.warmthOf(house.week) / 10;
            return Math.max(0, house.weight[block] - lost);
        }

        int fulfil(int order, int column) {
            int comes = whatComes(order, house.topOf(column));
            house.sellTop(column, comes);
            served[order] = true;
            servedSoFar++;
            takings += price[order];
            return comes;
        }
    }

    /** Rows of sales are tried in the order in which they come ahead; the first of the best stays. */
    private static final class SalesPlan {
        final int[] columns = new int[SALES_COLUMNS];
        int bestPrices;
        int bestLength;
        final int[] bestOrders = new int[MAX_SALES];
        final int[] bestPositions = new int[MAX_SALES];
        private final House house;
        private final Orders orders;
        private int told;
        /** Whether an order may be served with the block so far below a column's top. */
        private final boolean[] fits = new boolean[MAX_ORDERS * SALES_COLUMNS * MAX_SALES];
        private final int[] dearestFirst = new int[MAX_ORDERS];
        private int usable;
        private final boolean[] used = new boolean[MAX_ORDERS];
        private final int[] taken = new int[SALES_COLUMNS];
        private final int[] rowOrders = new int[MAX_SALES];
        private final int[] rowPositions = new int[MAX_SALES];

        SalesPlan(House house, Orders orders) {
            this.house = house;
            this.orders = orders;
        }

        /** Whether the numbers that waited are columns to plan with. */
        boolean takeOver(Waiting waiting) {
            told = waiting.handOver(columns);
            for (int i = 0; i < told; i++) {
                if (!isColumn(columns[i])) {
                    return false;
                }
            }
            return told > 0;
        }

        void plan() {
            bestPrices = 0;
            bestLength = 0;
            usable = 0;
            for (int order = 0; order < orders.size; order++) {
                if (fillFits(order)) {
                    enlist(order);
                }
            }
            tryRows(this, 0, 0);
        }

        private static int slot(int order, int position, int below) {
            return (order * SALES_COLUMNS + position) * MAX_SALES + below;
        }

        private boolean fillFits(int order) {
            boolean any = false;
            for (int position = 0; position < told; position++) {
                int top = house.height[columns[position]] - 1;
                for (int below = 0; below < MAX_SALES; below++) {
                    int block = house.blockAt(columns[position], top - below);
                    boolean fit = orders.hindrance(order, block) == 0;
                    fits[slot(order, position, below)] = fit;
                    any = any || fit;
                }
            }
            return any;
        }

        private void enlist(int order) {
            int rank = usable;
            while (rank > 0 && orders.price[dearestFirst[rank - 1]] < orders.price[order]) {
                dearestFirst[rank] = dearestFirst[rank - 1];
                rank--;
            }
            dearestFirst[rank] = order;
            usable++;
        }

        private static void tryRows(SalesPlan plan, int length, int prices) {
            plan.keepIfBetter(length, prices);
            if (length >= MAX_SALES || !plan.mayImprove(length, prices)) {
                return;
            }
            for (int order = 0; order < plan.orders.size; order++) {
                for (int position = 0; position < plan.told; position++) {
                    if (plan.mayServe(order, position)) {
                        plan.push(length, order, position);
                        tryRows(plan, length + 1, prices + plan.orders.price[order]);
                        plan.pop(order, position);
                    }
                }
            }
        }

        private void keepIfBetter(int length, int prices) {
            if (prices > bestPrices || prices == bestPrices && length < bestLength) {
                bestPrices = prices;
                bestLength = length;
                System.arraycopy(rowOrders, 0, bestOrders, 0, length);
                System.arraycopy(rowPositions, 0, bestPositions, 0, length);
            }
        }

        /**
         * Without this, rows that can't be better would take most of the time. A row that is as dear as the
         * best but shorter is still found: an order of the best is left over by it, and counts here.
         */
        private boolean mayImprove(int length, int prices) {
            return prices + dearest(MAX_SALES - length) > bestPrices;
        }

        private int dearest(int n) {
            int sum = 0;
            int left = n;
            for (int i = 0; i < usable && left > 0; i++) {
                if (!used[dearestFirst[i]]) {
                    sum += orders.price[dearestFirst[i]];
                    left--;
                }
            }
            return sum;
        }

        private boolean mayServe(int order, int position) {
            return !used[order] && within(taken[position], 0, MAX_SALES - 1)
                    && fits[slot(order, position, taken[position])];
        }

        private void push(int length, int order, int position) {
            rowOrders[length] = order;
            rowPositions[length] = position;
            used[order] = true;
            taken[position]++;
        }

        private void pop(int order, int position) {
            used[order] = false;
            taken[position]--;
        }
    }

    private static final class Railway {
        int size;
        final int[] cakesAt = new int[MAX_STATIONS];
        private final int[] priceAt = new int[MAX_STATIONS];
        private final int[] wayFrom = new int[MAX_STATIONS];
        /** By station and cakes in the car that comes there: what the rest costs at least; -1: no way. */
        private final int[][] leastCost = new int[MAX_STATIONS][MAX_ROOM + 1];
        /** By the same: the fewest cakes to buy there at that cost. */
        private final int[][] fewestBought = new int[MAX_STATIONS][MAX_ROOM + 1];

        int enter(int price, int cakes, int way) {
            describe(size, price, cakes, way);
            size++;
            return size;
        }

        void describe(int station, int price, int cakes, int way) {
            priceAt[station] = price;
            cakesAt[station] = cakes;
            wayFrom[station] = way;
        }

        void plan(int room) {
            Arrays.fill(leastCost[size - 1], 0);
            for (int station = size - 2; station >= 0; station--) {
                for (int inCar = 0; inCar <= room; inCar++) {
                    planAt(station, inCar, room);
                }
            }
        }

        private void planAt(int station, int inCar, int room) {
            int cheapest = -1;
            int fewest = 0;
            int most = Math.min(cakesAt[station], room - inCar);
            for (int bought = Math.max(0, wayFrom[station] - inCar); bought <= most; bought++) {
                int rest = leastCost[station + 1][inCar + bought - wayFrom[station]];
                int cost = rest + bought * priceAt[station];
                if (rest >= 0 && (cheapest < 0 || cost < cheapest)) {
                    cheapest = cost;
                    fewest = bought;
                }
            }
            leastCost[station][inCar] = cheapest;
            fewestBought[station][inCar] = fewest;
        }

        int costFrom(int cakes) {
            return leastCost[0][cakes];
        }

        /** What a car buys at a station, if it began with so many cakes and comes to the last one. */
        int boughtAt(int station, int cakes) {
            int inCar = cakes;
            for (int s = 0; s < station; s++) {
                inCar += fewestBought[s][inCar] - wayFrom[s];
            }
            return fewestBought[station][inCar];
        }
    }

    private static final class Waiting {
        int size;
        private final int[] numbers = new int[MAX_WAITING];

        int enter(int v) {
            numbers[size] = v;
            size++;
            return size;
        }

        void clear() {
            size = 0;
        }

        /** The numbers wait no more, but fill a row: how many; 0: none wait, too many, or two are the same. */
        int handOver(int[] row) {
            int handed = size <= row.length && !hasTwins() ? size : 0;
            System.arraycopy(numbers, 0, row, 0, handed);
            clear();
            return handed;
        }

        private boolean hasTwins() {
            for (int i = 0; i < size; i++) {
                for (int k = i + 1; k < size; k++) {
                    if (numbers[i] == numbers[k]) {
                        return true;
                    }
                }
            }
            return false;
        }

        /** 1 and the first number that isn't the weight of its column; 0: all are. */
        int firstWrong(House house) {
            for (int i = 0; i < size; i++) {
                if (numbers[i] != house.columnWeight(i)) {
                    return i + 1;
                }
            }
            return 0;
        }
    }
}
