import java.util.ArrayList;
import java.util.Arrays;
import java.util.List;

/**
 * The document once more, as plainly as it can be said and with every way tried one by one,
 * so that ModelTest can hold the class against it. It shares no code with the class.
 */
final class PlainModel {
    static final int LOW = -1000000;

    private static final class Cell {
        int thick;
        int snow;
        boolean milked;
    }

    private static final class Block {
        int number;
        int kind;
        int weight;
        int where;

        Block copy() {
            Block b = new Block();
            b.number = number;
            b.kind = kind;
            b.weight = weight;
            b.where = where;
            return b;
        }
    }

    private static final class Order {
        int grade;
        int weight;
        int week;
        int hours;
        int price;
        boolean served;
    }

    private final Cell[] cells = new Cell[64];
    private List<Block> blocks = new ArrayList<>();
    private List<List<Block>> columns = new ArrayList<>();
    private int[] dust = new int[4];
    private final int[] cover = new int[16];
    private final int[] warmth = new int[100];
    private int week;
    private final List<Order> orders = new ArrayList<>();
    private final List<int[]> stations = new ArrayList<>();
    private List<Integer> waiting = new ArrayList<>();
    private int[] books = new int[7];
    private final int[] findings = new int[6];

    PlainModel() {
        for (int c = 0; c < 64; c++) {
            cells[c] = new Cell();
        }
        for (int k = 0; k < 16; k++) {
            columns.add(new ArrayList<>());
        }
        Arrays.fill(warmth, 10);
    }

    private int beyond() {
        findings[1]++;
        return LOW - 1;
    }

    private int none() {
        findings[2]++;
        return LOW - 2;
    }

    private int state() {
        findings[3]++;
        return LOW - 3;
    }

    private int full() {
        findings[4]++;
        return LOW - 4;
    }

    // ---- the lake

    int frost(int f) {
        if (f < 1 || f > 40) {
            return beyond();
        }
        int horses = 0;
        for (Cell c : cells) {
            double root = Math.floor(Math.sqrt(c.thick * c.thick + (f * 40) / (2 + c.snow)));
            c.thick = Math.min(60, (int) root);
            c.milked |= c.snow > 0;
            horses += c.thick >= 10 ? 1 : 0;
        }
        return horses;
    }

    int thaw(int t) {
        if (t < 1 || t > 20) {
            return beyond();
        }
        for (Cell c : cells) {
            c.thick = c.thick < t ? 0 : c.thick - t;
            c.snow = 0;
            if (c.thick == 0) {
                c.milked = false;
            }
        }
        return frozen();
    }

    private int frozen() {
        int n = 0;
        for (Cell c : cells) {
            n += c.thick > 0 ? 1 : 0;
        }
        return n;
    }

    int snow(int n) {
        if (n < 1 || n > 10) {
            return beyond();
        }
        int all = 0;
        for (Cell c : cells) {
            if (c.thick > 0) {
                c.snow = Math.min(30, c.snow + n);
            }
            all += c.snow;
        }
        return all;
    }

    int scrape(int row) {
        if (row < 0 || row > 7) {
            return beyond();
        }
        int was = 0;
        for (int c = 0; c < 64; c++) {
            if (c / 8 == row) {
                was += cells[c].snow;
                cells[c].snow = 0;
            }
        }
        return was;
    }

    int cell(int c, int what) {
        if (c < 0 || c > 63 || what < 0 || what > 2) {
            return beyond();
        }
        return what == 0 ? cells[c].thick : what == 1 ? cells[c].snow : cells[c].milked ? 1 : 0;
    }

    private static boolean beside(int a, int b) {
        return Math.abs(a / 8 - b / 8) + Math.abs(a % 8 - b % 8) == 1;
    }

    private static boolean[] reachedBy(int[] thick, int need) {
        boolean[] reached = new boolean[64];
        boolean more = true;
        while (more) {
            more = false;
            for (int c = 0; c < 64; c++) {
                boolean now = thick[c] >= need && c / 8 == 0;
                for (int d = 0; d < 64; d++) {
                    now |= thick[c] >= need && reached[d] && beside(c, d);
                }
                more |= now && !reached[c];
                reached[c] |= now;
            }
        }
        return reached;
    }

    private int[] thicks() {
        int[] thick = new int[64];
        for (int c = 0; c < 64; c++) {
            thick[c] = cells[c].thick;
        }
        return thick;
    }

    private static final int[] NEED = {4, 10, 18};

    int reached(int who) {
        if (who < 0 || who > 2) {
            return beyond();
        }
        int n = 0;
        for (boolean r : reachedBy(thicks(), NEED[who])) {
            n += r ? 1 : 0;
        }
        return n;
    }

    int reach(int c, int who) {
        if (c < 0 || c > 63 || who < 0 || who > 2) {
            return beyond();
        }
        return reachedBy(thicks(), NEED[who])[c] ? 1 : 0;
    }

    private static boolean isSquare(int s) {
        return s >= 0 && s < 64 && s / 8 <= 6 && s % 8 <= 6;
    }

    private static int[] four(int s) {
        return new int[] {s, s + 1, s + 8, s + 9};
    }

    private static int barsAmong(int[] thick, int square) {
        int[] without = thick.clone();
        for (int c : four(square)) {
            if (thick[c] < 8) {
                return 1;
            }
            without[c] = 0;
        }
        boolean[] reached = reachedBy(without, 10);
        for (int c : four(square)) {
            for (int d = 0; d < 64; d++) {
                if (beside(c, d) && reached[d]) {
                    return 0;
                }
            }
        }
        return 2;
    }

    int bars(int square) {
        return isSquare(square) ? barsAmong(thicks(), square) : beyond();
    }

    int cut(int square) {
        if (!isSquare(square)) {
            return beyond();
        }
        if (barsAmong(thicks(), square) != 0) {
            return state();
        }
        if (blocks.size() == 60) {
            return full();
        }
        int thick = 0;
        int milked = 0;
        for (int c : four(square)) {
            thick += cells[c].thick;
            milked += cells[c].milked ? 1 : 0;
            cells[c] = new Cell();
        }
        Block b = new Block();
        b.number = blocks.size();
        b.weight = 5 * thick;
        b.kind = milked >= 2 ? 2 : milked == 1 ? 0 : thick < 48 ? 3 : 1;
        blocks.add(b);
        return b.number;
    }

    private List<Integer> longest;

    private void seasonFrom(List<Integer> told, int[] thick, List<Integer> row) {
        if (row.size() > longest.size()) {
            longest = new ArrayList<>(row);
        }
        for (int square : told) {
            if (!row.contains(square) && barsAmong(thick, square) == 0) {
                int[] then = thick.clone();
                for (int c : four(square)) {
                    then[c] = 0;
                }
                row.add(square);
                seasonFrom(told, then, row);
                row.remove(row.size() - 1);
            }
        }
    }

    private static boolean twins(List<Integer> told) {
        return told.stream().distinct().count() < told.size();
    }

    int season(int what) {
        if (what < 0) {
            return beyond();
        }
        List<Integer> told = waiting;
        waiting = new ArrayList<>();
        if (told.isEmpty() || told.size() > 6 || twins(told) || !told.stream().allMatch(PlainModel::isSquare)) {
            return state();
        }
        longest = new ArrayList<>();
        seasonFrom(told, thicks(), new ArrayList<>());
        if (what == 0) {
            return longest.size();
        }
        return what <= longest.size() ? longest.get(what - 1) : none();
    }

    // ---- the house

    private boolean noBlock(int b) {
        return b < 0 || b >= blocks.size();
    }

    private static boolean noColumn(int k) {
        return k < 0 || k > 15;
    }

    private static int load(List<Block> column, int level) {
        int all = 0;
        for (int i = level + 1; i < column.size(); i++) {
            all += column.get(i).weight;
        }
        return all;
    }

    private void breakAll() {
        boolean again = true;
        while (again) {
            again = false;
            for (List<Block> column : columns) {
                for (int level = 0; level < column.size() && !again; level++) {
                    Block b = column.get(level);
                    if (b.kind == 3 && load(column, level) > 2 * b.weight) {
                        books[2] += b.weight;
                        b.weight = 0;
                        b.where = 2;
                        column.remove(level);
                        again = true;
                    }
                }
            }
        }
    }

    int put(int block, int column) {
        if (noBlock(block) || noColumn(column)) {
            return beyond();
        }
        Block b = blocks.get(block);
        if (b.where != 0 || columns.get(column).size() == 6) {
            return state();
        }
        b.where = 1;
        books[0] += b.weight;
        columns.get(column).add(b);
        breakAll();
        return columns.get(column).indexOf(b);
    }

    private Block pop(int column) {
        List<Block> c = columns.get(column);
        return c.remove(c.size() - 1);
    }

    int take(int column) {
        if (noColumn(column)) {
            return beyond();
        }
        if (columns.get(column).isEmpty()) {
            return none();
        }
        Block b = pop(column);
        books[4] += b.weight;
        b.weight = 0;
        b.where = 2;
        return b.number;
    }

    int move(int column, int to) {
        if (noColumn(column) || noColumn(to) || column == to) {
            return beyond();
        }
        if (columns.get(column).isEmpty()) {
            return none();
        }
        if (columns.get(to).size() == 6) {
            return state();
        }
        Block b = pop(column);
        columns.get(to).add(b);
        breakAll();
        return b.number;
    }

    int as(int block, int kind) {
        if (noBlock(block) || kind < 0 || kind > 3) {
            return beyond();
        }
        int k = blocks.get(block).kind;
        if (k == kind || kind == 0 || k == 3 && kind == 1) {
            return blocks.get(block).weight;
        }
        findings[5]++;
        return LOW - 5;
    }

    private int meltOf(Block b, int w) {
        for (int k = 0; k < 16; k++) {
            int level = columns.get(k).indexOf(b);
            if (level >= 0) {
                int open = level == columns.get(k).size() - 1 ? w * (10 - cover[k]) : 0;
                int[][] ways = {{-1, 0}, {1, 0}, {0, -1}, {0, 1}};
                for (int wall = 0; wall < 4; wall++) {
                    int row = k / 4 + ways[wall][0];
                    int place = k % 4 + ways[wall][1];
                    if (row < 0 || row > 3 || place < 0 || place > 3) {
                        open += w * (10 - dust[wall]);
                    } else if (columns.get(row * 4 + place).size() <= level) {
                        open += w * 10;
                    }
                }
                return Math.min(b.weight, open * (b.kind == 0 ? 4 : b.kind == 2 ? 6 : 3) / 400);
            }
        }
        return 0;
    }

    private int heat() {
        return week < 100 ? warmth[week] : 10;
    }

    int about(int block, int what) {
        if (noBlock(block) || what < 0 || what > 6) {
            return beyond();
        }
        Block b = blocks.get(block);
        int column = -1;
        int level = -1;
        for (int k = 0; k < 16; k++) {
            if (columns.get(k).contains(b)) {
                column = k;
                level = columns.get(k).indexOf(b);
            }
        }
        int load = column < 0 ? 0 : load(columns.get(column), level);
        return new int[] {b.kind, b.weight, b.where, column, level, load, meltOf(b, heat())}[what];
    }

    int at(int column, int level) {
        if (noColumn(column) || level < 0 || level > 5) {
            return beyond();
        }
        List<Block> c = columns.get(column);
        return level < c.size() ? c.get(level).number : none();
    }

    private int set(int[] row, int i, int n, int most) {
        if (i < 0 || i >= row.length || n < 0 || n > most) {
            return beyond();
        }
        int was = row[i];
        row[i] = n;
        return was;
    }

    int dust(int wall, int n) {
        return set(dust, wall, n, 10);
    }

    int cover(int column, int n) {
        return set(cover, column, n, 10);
    }

    int warmth(int which, int w) {
        return set(warmth, which, w, 40);
    }

    int melts() {
        int all = 0;
        for (Block b : blocks) {
            all += meltOf(b, heat());
        }
        return all;
    }

    private void week() {
        int[] melt = new int[blocks.size()];
        for (Block b : blocks) {
            melt[b.number] = meltOf(b, heat());
        }
        for (Block b : blocks) {
            b.weight -= melt[b.number];
            books[1] += melt[b.number];
            if (b.where == 1 && b.weight == 0) {
                b.where = 2;
                for (List<Block> column : columns) {
                    column.remove(b);
                }
            }
        }
        breakAll();
        week++;
    }

    private int all() {
        int all = 0;
        for (List<Block> column : columns) {
            all += load(column, -1);
        }
        return all;
    }

    int weeks(int n) {
        if (n < 1 || n > 20) {
            return beyond();
        }
        if (week + n > 100) {
            return full();
        }
        for (int i = 0; i < n; i++) {
            week();
        }
        return all();
    }

    /** Weights of all columns behind n more weeks, the last one of all together. */
    int[] columnsAhead(int n) {
        List<Block> keptBlocks = blocks;
        List<List<Block>> keptColumns = columns;
        int keptWeek = week;
        int[] keptBooks = books.clone();
        blocks = new ArrayList<>();
        for (Block b : keptBlocks) {
            blocks.add(b.copy());
        }
        columns = new ArrayList<>();
        for (List<Block> column : keptColumns) {
            List<Block> c = new ArrayList<>();
            for (Block b : column) {
                c.add(blocks.get(b.number));
            }
            columns.add(c);
        }
        for (int i = 0; i < n; i++) {
            week();
        }
        int[] weights = new int[17];
        for (int k = 0; k < 16; k++) {
            weights[k] = load(columns.get(k), -1);
            weights[16] += weights[k];
        }
        blocks = keptBlocks;
        columns = keptColumns;
        week = keptWeek;
        books = keptBooks;
        return weights;
    }

    int after(int n) {
        return n < 0 || n > 20 ? beyond() : columnsAhead(n)[16];
    }

    int lasts(int v) {
        if (v < 1 || v > 100000) {
            return beyond();
        }
        for (int n = 0; n <= 20; n++) {
            if (columnsAhead(n)[16] < v) {
                return n;
            }
        }
        return none();
    }

    int best(int n, int what) {
        if (n < 0 || n > 40 || what < 0 || what > 4) {
            return beyond();
        }
        int[] kept = dust;
        int[] best = null;
        for (int way = 0; way < 14641; way++) {
            int[] d = {way / 1331, way / 121 % 11, way / 11 % 11, way % 11};
            int together = d[0] + d[1] + d[2] + d[3];
            if (together <= n) {
                dust = d;
                int[] now = {melts(), together, d[0], d[1], d[2], d[3]};
                if (best == null || Arrays.compare(now, best) < 0) {
                    best = now;
                }
            }
        }
        dust = kept;
        return what == 0 ? best[0] : best[1 + what];
    }

    // ---- orders

    int order(int grade, int weight, int until, int hours, int price) {
        if (grade < 0 || grade > 2 || weight < 1 || weight > 2000 || until < 0 || until > 100
                || hours < 0 || hours > 20 || price < 1 || price > 1000) {
            return beyond();
        }
        if (orders.size() == 10) {
            return full();
        }
        Order o = new Order();
        o.grade = grade;
        o.weight = weight;
        o.week = until;
        o.hours = hours;
        o.price = price;
        orders.add(o);
        return orders.size() - 1;
    }

    private int comes(Order o, Block b) {
        return Math.max(0, b.weight - o.hours * heat() / 10);
    }

    private int whyNot(Order o, List<Block> column) {
        if (o.served) {
            return 1;
        }
        if (week > o.week) {
            return 2;
        }
        if (column.isEmpty()) {
            return 3;
        }
        Block b = column.get(column.size() - 1);
        if (o.grade == 1 && b.kind == 2 || o.grade == 2 && b.kind != 1 && b.kind != 3) {
            return 4;
        }
        return comes(o, b) >= o.weight ? 0 : 5;
    }

    private boolean noOrder(int o) {
        return o < 0 || o >= orders.size();
    }

    int why(int order, int column) {
        return noOrder(order) || noColumn(column) ? beyond() : whyNot(orders.get(order), columns.get(column));
    }

    int serve(int order, int column) {
        if (noOrder(order) || noColumn(column)) {
            return beyond();
        }
        Order o = orders.get(order);
        if (whyNot(o, columns.get(column)) != 0) {
            return state();
        }
        Block b = pop(column);
        int comes = comes(o, b);
        books[3] += comes;
        books[1] += b.weight - comes;
        books[6] += o.price;
        b.weight = 0;
        b.where = 2;
        o.served = true;
        return comes;
    }

    private int mostPrices;
    private List<Integer> bestRow;

    private void salesFrom(List<Integer> told, List<Integer> row, int prices) {
        if (prices > mostPrices || prices == mostPrices && row.size() < bestRow.size()) {
            mostPrices = prices;
            bestRow = new ArrayList<>(row);
        }
        for (int o = 0; o < orders.size() && row.size() < 8; o++) {
            for (int k : told) {
                if (whyNot(orders.get(o), columns.get(k)) == 0) {
                    Block b = pop(k);
                    orders.get(o).served = true;
                    row.add(o);
                    row.add(k);
                    salesFrom(told, row, prices + orders.get(o).price);
                    row.remove(row.size() - 1);
                    row.remove(row.size() - 1);
                    orders.get(o).served = false;
                    columns.get(k).add(b);
                }
            }
        }
    }

    int sales(int what) {
        if (what < 0) {
            return beyond();
        }
        List<Integer> told = waiting;
        waiting = new ArrayList<>();
        if (told.isEmpty() || told.size() > 3 || twins(told) || told.stream().anyMatch(PlainModel::noColumn)) {
            return state();
        }
        mostPrices = 0;
        bestRow = new ArrayList<>();
        salesFrom(told, new ArrayList<>(), 0);
        if (what < 2) {
            return what == 0 ? mostPrices : bestRow.size() / 2;
        }
        return what - 2 < bestRow.size() ? bestRow.get(what - 2) : none();
    }

    // ---- the railway

    private static boolean noStation(int price, int cakes, int way) {
        return price < 1 || price > 100 || cakes < 0 || cakes > 60 || way < 0 || way > 30;
    }

    int station(int price, int cakes, int way) {
        if (noStation(price, cakes, way)) {
            return beyond();
        }
        if (stations.size() == 9) {
            return full();
        }
        stations.add(new int[] {price, cakes, way});
        return stations.size();
    }

    int change(int station, int price, int cakes, int way) {
        if (station < 0 || station >= stations.size() || noStation(price, cakes, way)) {
            return beyond();
        }
        return stations.set(station, new int[] {price, cakes, way})[1];
    }

    /** From the first station on: for each load of the car the best way to it, cost ahead and then what was bought. */
    int icing(int room, int cakes, int what) {
        if (room < 1 || room > 60 || cakes < 0 || cakes > room) {
            return beyond();
        }
        if (stations.size() < 2) {
            return state();
        }
        if (what < -1 || what > stations.size() - 2) {
            return beyond();
        }
        int[][] ways = new int[61][];
        ways[cakes] = new int[stations.size()];
        for (int s = 0; s < stations.size() - 1; s++) {
            int[][] next = new int[61][];
            int[] station = stations.get(s);
            for (int car = 0; car <= room; car++) {
                for (int buy = 0; ways[car] != null && buy <= station[1] && car + buy <= room; buy++) {
                    int left = car + buy - station[2];
                    if (left >= 0) {
                        int[] now = ways[car].clone();
                        now[0] += buy * station[0];
                        now[1 + s] = buy;
                        if (next[left] == null || Arrays.compare(now, next[left]) < 0) {
                            next[left] = now;
                        }
                    }
                }
            }
            ways = next;
        }
        int[] best = null;
        for (int[] way : ways) {
            if (way != null && (best == null || Arrays.compare(way, best) < 0)) {
                best = way;
            }
        }
        return best == null ? none() : best[1 + what];
    }

    // ---- the ledger, and what is told

    int ledger(int what) {
        if (what < 0 || what > 6) {
            return beyond();
        }
        return what == 5 ? books[0] - books[1] - books[2] - books[3] - books[4] : books[what];
    }

    int tell(int v) {
        if (waiting.size() == 16) {
            return full();
        }
        waiting.add(v);
        return waiting.size();
    }

    int check(int n) {
        List<Integer> told = waiting;
        waiting = new ArrayList<>();
        if (n < 0 || n > 20) {
            return beyond();
        }
        int[] weights = columnsAhead(n);
        for (int i = 0; i < told.size(); i++) {
            if (told.get(i) != weights[i]) {
                return 1 + i;
            }
        }
        return 0;
    }

    int count(int what) {
        int[] where = new int[3];
        for (Block b : blocks) {
            where[b.where]++;
        }
        int served = 0;
        for (Order o : orders) {
            served += o.served ? 1 : 0;
        }
        int[] counts = {blocks.size(), where[0], where[1], orders.size(), served, week,
            stations.size(), waiting.size(), frozen()};
        return what < 0 || what > 8 ? beyond() : counts[what];
    }

    int found(int k) {
        return k < 1 || k > 5 ? beyond() : findings[k];
    }
}
