/**
 * The office of a water under the ground: wells of kinds that draw or fill month by month, the
 * heads that follow, licences, guards, and tables put right by what was read.
 *
 * The face tests every argument and tells the findings; the classes inside are only ever called
 * with numbers that were tested here. All rows are made with the object and used again, so that no
 * later call makes one.
 */
public final class WellField {
    private static final int BEYOND = -1000000001;
    private static final int MISSING = -1000000002;
    private static final int SIZE = -1000000003;
    private static final int KIND = -1000000004;
    private static final int FULL = -1000000005;
    private static final int NONE = -1000000006;
    private static final int NO_NUMBER = -1000000007;

    private static final int WELL = 0;
    private static final int DEEP = 1;
    private static final int PAIRED = 2;
    private static final int FILLING = 3;
    private static final int GUARD = 4;
    private static final int POST = 5;
    /** By kind: how many times itself a draw counts. */
    private static final int[] COUNTS_TIMES = {1, 1, 1, -1, -1, 0};

    private static final int MONTHS = 24;
    private static final int MOST_WELLS = 10;
    private static final int MOST_LICENCES = 10;
    private static final int MOST_READINGS = 40;
    private static final int LAYERS = 2;
    private static final int DISTANCES = 10;
    private static final int AGES = 12;
    private static final int LAST_PLACE = 30;
    /** The greatest draw, rain, amount, and number of a table. */
    private static final int MOST = 1000;
    private static final int HEAD_BOUND = 100000;
    private static final int READING_BOUND = 100000000;
    private static final int LAST_YEAR = 9999;
    private static final int SHEETS = 4;
    private static final int SHEET_ROOM = 24;
    /** The kinds of sheets: 1, between these, is of whole numbers. */
    private static final int NO_SHEET = 0;
    private static final int FLOATS = 2;
    private static final int UNSERVED = -1;
    private static final int LEAST_FACTOR = 50;
    private static final int GREATEST_FACTOR = 150;
    private static final int FACTOR_STEP = 10;

    private final Water now = new Water();
    private final Water kept = new Water();
    private boolean anyKept = false;
    private final Sheet[] sheets = {new Sheet(), new Sheet(), new Sheet(), new Sheet()};
    private int findings = 0;

    public WellField() {
    }

    // ---- wells, tables

    public int well(int kind, int x, int y, int rest) {
        if (!isKind(kind) || !isPlace(x) || !isPlace(y) || !isHeadBound(rest)) {
            return finding(BEYOND);
        }
        if (now.wells.size >= MOST_WELLS) {
            return finding(FULL);
        }
        return now.wells.add(kind, x, y, rest);
    }

    public int limit(int well, int v) {
        if (!isWell(well) || !isHeadBound(v)) {
            return finding(BEYOND);
        }
        int was = now.wells.limits[well];
        now.wells.limits[well] = v;
        return was;
    }

    public int as(int well, int kind) {
        if (!isWell(well) || !isKind(kind)) {
            return finding(BEYOND);
        }
        return now.wells.isOneOf(well, kind) ? well : finding(KIND);
    }

    public int of(int well, int what) {
        if (!isWell(well)) {
            return finding(BEYOND);
        }
        switch (what) {
            case 0: return now.wells.kinds[well];
            case 1: return now.wells.xs[well];
            case 2: return now.wells.ys[well];
            case 3: return now.wells.rests[well];
            case 4: return now.wells.limits[well];
            case 5: return now.sumOfDraws(well);
            default: return finding(BEYOND);
        }
    }

    public int distance(int well, int other) {
        if (!isWell(well) || !isWell(other)) {
            return finding(BEYOND);
        }
        return now.wells.apart(well, other);
    }

    public int table(int layer, int distance, int age, int v) {
        if (!isLayer(layer) || !isAge(age) || !isAmount(v) || !within(distance, 0, DISTANCES - 1)) {
            return finding(BEYOND);
        }
        if (!now.tables.keepsOrder(layer, distance, age, v)) {
            return finding(SIZE);
        }
        int at = Tables.row(layer, distance) + age;
        int was = now.tables.falls[at];
        now.tables.falls[at] = v;
        return was;
    }

    public int rainTable(int age, int v) {
        if (!isAge(age) || !isAmount(v)) {
            return finding(BEYOND);
        }
        int was = now.tables.rises[age];
        now.tables.rises[age] = v;
        return was;
    }

    // ---- sheets, draws, rain

    public int sheet(int s, int kind, int n) {
        if (!isSheet(s) || !within(kind, NO_SHEET, FLOATS)) {
            return finding(BEYOND);
        }
        if (n < 0) {
            return finding(SIZE);
        }
        if (n > SHEET_ROOM) {
            return finding(BEYOND);
        }
        return sheets[s].start(kind, n);
    }

    public int put(int s, int i, int v) {
        if (!isSheet(s)) {
            return finding(BEYOND);
        }
        if (sheets[s].isMissing()) {
            return finding(MISSING);
        }
        if (!within(i, 0, sheets[s].size - 1)) {
            return finding(BEYOND);
        }
        sheets[s].write(i, v);
        return 0;
    }

    public int copy(int s, int from, int t, int to, int n) {
        if (!isSheet(s) || !isSheet(t)) {
            return finding(BEYOND);
        }
        if (sheets[s].isMissing() || sheets[t].isMissing()) {
            return finding(MISSING);
        }
        if (sheets[s].kind != sheets[t].kind) {
            return finding(KIND);
        }
        if (!sheets[s].hasPart(from, n) || !sheets[t].hasPart(to, n)) {
            return finding(BEYOND);
        }
        System.arraycopy(sheets[s].numbers, from, sheets[t].numbers, to, n);
        return n;
    }

    public int draws(int well, int month, int s) {
        if (!isWell(well) || !isMonth(month) || !isSheet(s)) {
            return finding(BEYOND);
        }
        if (now.wells.kinds[well] == POST) {
            return finding(KIND);
        }
        Sheet sheet = sheets[s];
        if (sheet.isMissing()) {
            return finding(MISSING);
        }
        int n = Math.min(sheet.size, MONTHS - month);
        if (!sheet.startsWithNumbers(n)) {
            return finding(NO_NUMBER);
        }
        if (!sheet.startsWithAmounts(n)) {
            return finding(BEYOND);
        }
        for (int i = 0; i < n; i++) {
            now.setDraw(well, month + i, sheet.whole(i));
        }
        return n;
    }

    public int draw(int well, int month, int v) {
        if (!isWell(well) || !isMonth(month) || !isAmount(v)) {
            return finding(BEYOND);
        }
        if (now.wells.kinds[well] == POST) {
            return finding(KIND);
        }
        int was = now.drawOf(well, month);
        now.setDraw(well, month, v);
        return was;
    }

    public int counts(int well, int month) {
        if (!isWell(well) || !isMonth(month)) {
            return finding(BEYOND);
        }
        return now.counted(well, month);
    }

    public int rain(int month, int v) {
        if (!isMonth(month) || !isAmount(v)) {
            return finding(BEYOND);
        }
        int was = now.rains[month];
        now.rains[month] = v;
        return was;
    }

    public int dry() {
        return clear(now.drawn) + clear(now.rains);
    }

    // ---- heads

    public int head(int well, int month) {
        if (!isWell(well) || !isMonth(month)) {
            return finding(BEYOND);
        }
        return now.headOf(well, month);
    }

    public int by(int well, int month, int of) {
        if (!isWell(well) || !isMonth(month) || !isWell(of)) {
            return finding(BEYOND);
        }
        return now.lowering(well, month, of, 0);
    }

    public int rained(int well, int month) {
        if (!isWell(well) || !isMonth(month)) {
            return finding(BEYOND);
        }
        return now.raisedByRain(month);
    }

    public int most(int well, int month) {
        if (!isWell(well) || !isMonth(month)) {
            return finding(BEYOND);
        }
        int greatest = 0;
        int found = NONE;
        for (int source = 0; source < now.wells.size; source++) {
            int lowering = now.lowering(well, month, source, 0);
            if (lowering > greatest) {
                greatest = lowering;
                found = source;
            }
        }
        return found == NONE ? finding(NONE) : found;
    }

    public int when(int well, int month) {
        if (!isWell(well) || !isMonth(month)) {
            return finding(BEYOND);
        }
        for (int m = month; m < MONTHS; m++) {
            if (now.aboveLimit(well, m) < 0) {
                return m;
            }
        }
        return finding(NONE);
    }

    public int near(int well, int month) {
        if (!isWell(well) || !isMonth(month)) {
            return finding(BEYOND);
        }
        int least = now.aboveLimit(well, month);
        for (int m = month + 1; m < MONTHS; m++) {
            least = Math.min(least, now.aboveLimit(well, m));
        }
        return least;
    }

    public int low(int month) {
        if (!isMonth(month)) {
            return finding(BEYOND);
        }
        int lows = 0;
        for (int well = 0; well < now.wells.size; well++) {
            if (now.aboveLimit(well, month) < 0) {
                lows++;
            }
        }
        return lows;
    }

    public int without(int well, int month, int of, int from) {
        if (!isWell(well) || !isMonth(month) || !isWell(of) || !isMonth(from)) {
            return finding(BEYOND);
        }
        return now.lowering(well, month, of, from);
    }

    // ---- what may be drawn

    public int free(int well, int month) {
        if (!isWell(well) || !isMonth(month)) {
            return finding(BEYOND);
        }
        now.findSpare(month);
        return now.freeOf(well, month);
    }

    public int licence(int well, int age, int amount) {
        if (!isWell(well) || !within(age, 0, LAST_YEAR) || !isAmount(amount)) {
            return finding(BEYOND);
        }
        if (!now.wells.isDrawing(well)) {
            return finding(KIND);
        }
        if (now.licences.size >= MOST_LICENCES) {
            return finding(FULL);
        }
        return now.licences.add(well, age, amount);
    }

    public int serve(int month) {
        if (!isMonth(month)) {
            return finding(BEYOND);
        }
        now.unserve(month);
        now.findSpare(month);
        int sum = 0;
        for (int i = 0; i < now.licences.size; i++) {
            int next = now.licences.nextUnserved();
            if (next >= 0) {
                int free = now.freeOf(now.licences.wells[next], month);
                sum += now.grant(next, month, free);
            }
        }
        return sum;
    }

    public int served(int licence, boolean lacks) {
        if (!within(licence, 0, now.licences.size - 1)) {
            return finding(BEYOND);
        }
        int amount = now.licences.served[licence];
        if (amount == UNSERVED) {
            return finding(NONE);
        }
        return lacks ? now.licences.amounts[licence] - amount : amount;
    }

    public int hold(int well, int month, int head) {
        if (!isWell(well) || !isMonth(month) || !isHeadBound(head)) {
            return finding(BEYOND);
        }
        if (now.wells.kinds[well] != GUARD) {
            return finding(KIND);
        }
        int least = now.leastToHold(well, month, head);
        if (least > MOST) {
            return finding(NONE);
        }
        now.setDraw(well, month, least);
        return least;
    }

    public int move(int well, int month, int from) {
        if (!isWell(well) || !isWell(from) || well == from || !isMonth(month)) {
            return finding(BEYOND);
        }
        if (!now.wells.isDrawing(well) || !now.wells.isDrawing(from)) {
            return finding(KIND);
        }
        int q = now.mostToMove(well, month, from);
        now.setDraw(well, month, q);
        now.setDraw(from, month, 0);
        return q;
    }

    // ---- what was read

    public int read(int well, int month, int v) {
        if (!isWell(well) || !isMonth(month) || !within(v, -READING_BOUND, READING_BOUND)) {
            return finding(BEYOND);
        }
        if (!now.readings.has(well, month) && now.readings.size >= MOST_READINGS) {
            return finding(FULL);
        }
        now.readings.write(well, month, v);
        return now.readings.size;
    }

    public int differ(int well, int month) {
        if (!isWell(well) || !isMonth(month)) {
            return finding(BEYOND);
        }
        if (!now.readings.has(well, month)) {
            return finding(NONE);
        }
        return now.readings.at(well, month) - now.headOf(well, month);
    }

    public int fit(int layer, int age) {
        if (!isLayer(layer) || !isAge(age)) {
            return finding(BEYOND);
        }
        if (now.readings.size == 0) {
            return finding(NONE);
        }
        now.tables.startTrial(layer, age);
        int best = LEAST_FACTOR;
        long least = 0;
        for (int f = LEAST_FACTOR; f <= GREATEST_FACTOR; f += FACTOR_STEP) {
            now.tables.tryFactor(layer, age, f);
            long sum = now.sumOfSquares();
            if (f == LEAST_FACTOR || sum < least) {
                least = sum;
                best = f;
            }
        }
        now.tables.tryFactor(layer, age, best);
        return best;
    }

    public long squares() {
        return now.sumOfSquares();
    }

    // ---- the whole

    public int keep() {
        kept.take(now);
        anyKept = true;
        return now.wells.size;
    }

    public int back() {
        if (!anyKept) {
            return finding(NONE);
        }
        now.take(kept);
        return now.wells.size;
    }

    public int told(int what) {
        switch (what) {
            case 0: return now.wells.size;
            case 1: return now.licences.size;
            case 2: return now.readings.size;
            case 3: return findings;
            default: return finding(BEYOND);
        }
    }

    // ---- what the face asks of its arguments

    private int finding(int number) {
        findings++;
        return number;
    }

    private boolean isWell(int well) {
        return within(well, 0, now.wells.size - 1);
    }

    private static boolean isMonth(int month) {
        return within(month, 0, MONTHS - 1);
    }

    private static boolean isKind(int kind) {
        return within(kind, WELL, POST);
    }

    private static boolean isPlace(int place) {
        return within(place, 0, LAST_PLACE);
    }

    private static boolean isHeadBound(int head) {
        return within(head, -HEAD_BOUND, HEAD_BOUND);
    }

    private static boolean isAmount(int amount) {
        return within(amount, 0, MOST);
    }

    private static boolean isLayer(int layer) {
        return within(layer, 0, LAYERS - 1);
    }

    private static boolean isAge(int age) {
        return within(age, 0, AGES - 1);
    }

    private static boolean isSheet(int s) {
        return within(s, 0, SHEETS - 1);
    }

    private static boolean within(int v, int least, int greatest) {
        return v >= least && v <= greatest;
    }

    /** Makes a row all 0, and tells how many of its numbers were not. */
    private static int clear(int[] row) {
        int cleared = 0;
        for (int i = 0; i < row.length; i++) {
            if (row[i] != 0) {
                row[i] = 0;
                cleared++;
            }
        }
        return cleared;
    }

    private static void copyRow(int[] from, int[] to) {
        System.arraycopy(from, 0, to, 0, Math.min(from.length, to.length));
    }

    /** The wells: where they are and of what kind. */
    private static final class Wells {
        private int size = 0;
        private final int[] kinds = new int[MOST_WELLS];
        private final int[] xs = new int[MOST_WELLS];
        private final int[] ys = new int[MOST_WELLS];
        private final int[] rests = new int[MOST_WELLS];
        private final int[] limits = new int[MOST_WELLS];

        private int add(int kind, int x, int y, int rest) {
            int well = size;
            kinds[well] = kind;
            xs[well] = x;
            ys[well] = y;
            rests[well] = rest;
            limits[well] = -HEAD_BOUND;
            size++;
            return well;
        }

        /** Whether a well is of a kind or of one under it: all are under WELL, and GUARD under FILLING. */
        private boolean isOneOf(int well, int kind) {
            return kinds[well] == kind || kind == WELL || (kind == FILLING && kinds[well] == GUARD);
        }

        /** Whether it takes water out: such wells alone have licences, and something FREE. */
        private boolean isDrawing(int well) {
            return COUNTS_TIMES[kinds[well]] > 0;
        }

        /** Whether a month is one in which what the well draws counts at all. */
        private boolean isOwnMonth(int well, int month) {
            return kinds[well] != PAIRED || (well & 1) == (month & 1);
        }

        private int apart(int well, int other) {
            int farther = Math.max(Math.abs(xs[well] - xs[other]), Math.abs(ys[well] - ys[other]));
            return Math.min(farther, DISTANCES - 1);
        }

        private int layer(int well, int other) {
            return (kinds[well] == DEEP) != (kinds[other] == DEEP) ? 1 : 0;
        }

        private void take(Wells from) {
            size = from.size;
            copyRow(from.kinds, kinds);
            copyRow(from.xs, xs);
            copyRow(from.ys, ys);
            copyRow(from.rests, rests);
            copyRow(from.limits, limits);
        }
    }

    /** How much a draw lowers and rain raises, by layer, distance and age. */
    private static final class Tables {
        private final int[] falls = new int[LAYERS * DISTANCES * AGES];
        private final int[] rises = new int[AGES];
        /** What fit() starts from, by distance: each factor is tried on these, not on the last try. */
        private final int[] before = new int[DISTANCES];

        private Tables() {
            for (int distance = 0; distance < DISTANCES; distance++) {
                int fall = 100 - 10 * distance;
                falls[row(0, distance)] = fall;
                falls[row(1, distance)] = fall / 2;
            }
            rises[0] = 10;
        }

        /** Where the numbers of a layer and distance begin, those of AGE 0 first. */
        private static int row(int layer, int distance) {
            return (layer * DISTANCES + distance) * AGES;
        }

        /** Whether v there would still leave the numbers falling, or alike, with the distance. */
        private boolean keepsOrder(int layer, int distance, int age, int v) {
            if (distance > 0 && v > falls[row(layer, distance - 1) + age]) {
                return false;
            }
            return distance == DISTANCES - 1 || v >= falls[row(layer, distance + 1) + age];
        }

        private void startTrial(int layer, int age) {
            for (int distance = 0; distance < DISTANCES; distance++) {
                before[distance] = falls[row(layer, distance) + age];
            }
        }

        private void tryFactor(int layer, int age, int f) {
            for (int distance = 0; distance < DISTANCES; distance++) {
                falls[row(layer, distance) + age] = Math.min(before[distance] * f / 100, MOST);
            }
        }

        private void take(Tables from) {
            copyRow(from.falls, falls);
            copyRow(from.rises, rises);
        }
    }

    /** Who may draw how much, and what the latest serve() gave. */
    private static final class Licences {
        private int size = 0;
        private final int[] wells = new int[MOST_LICENCES];
        private final int[] years = new int[MOST_LICENCES];
        private final int[] amounts = new int[MOST_LICENCES];
        private final int[] served = new int[MOST_LICENCES];

        private int add(int well, int year, int amount) {
            int licence = size;
            wells[licence] = well;
            years[licence] = year;
            amounts[licence] = amount;
            served[licence] = UNSERVED;
            size++;
            return licence;
        }

        /** The one whose turn it is: of those not yet served that of the least year, or -1. */
        private int nextUnserved() {
            int next = -1;
            for (int i = 0; i < size; i++) {
                if (served[i] == UNSERVED && (next < 0 || years[i] < years[next])) {
                    next = i;
                }
            }
            return next;
        }

        private void take(Licences from) {
            size = from.size;
            copyRow(from.wells, wells);
            copyRow(from.years, years);
            copyRow(from.amounts, amounts);
            copyRow(from.served, served);
        }
    }

    /** The heads that were read, at most one for each well and month. */
    private static final class Readings {
        private int size = 0;
        /** 1 where there is a reading: any number that fits may have been read, 0 too. */
        private final int[] marks = new int[MOST_WELLS * MONTHS];
        private final int[] heads = new int[MOST_WELLS * MONTHS];

        private boolean has(int well, int month) {
            return marks[well * MONTHS + month] != 0;
        }

        private int at(int well, int month) {
            return heads[well * MONTHS + month];
        }

        private void write(int well, int month, int v) {
            if (!has(well, month)) {
                marks[well * MONTHS + month] = 1;
                size++;
            }
            heads[well * MONTHS + month] = v;
        }

        private void take(Readings from) {
            size = from.size;
            copyRow(from.marks, marks);
            copyRow(from.heads, heads);
        }
    }

    /** All that keep() keeps, and what follows from it. */
    private static final class Water {
        private final Wells wells = new Wells();
        private final Tables tables = new Tables();
        private final Licences licences = new Licences();
        private final Readings readings = new Readings();
        private final int[] drawn = new int[MOST_WELLS * MONTHS];
        private final int[] rains = new int[MONTHS];
        /** How far each head is above its limit: findSpare() makes it for freeOf(), nothing else reads it. */
        private final int[] spare = new int[MOST_WELLS * MONTHS];

        private int drawOf(int well, int month) {
            return drawn[well * MONTHS + month];
        }

        private void setDraw(int well, int month, int v) {
            drawn[well * MONTHS + month] = v;
        }

        private int sumOfDraws(int well) {
            int sum = 0;
            for (int month = 0; month < MONTHS; month++) {
                sum += drawOf(well, month);
            }
            return sum;
        }

        private int counted(int well, int month) {
            return wells.isOwnMonth(well, month) ? COUNTS_TIMES[wells.kinds[well]] * drawOf(well, month) : 0;
        }

        /** Where the table's numbers for what one well does to another begin. */
        private int rowBetween(int well, int source) {
            return Tables.row(wells.layer(well, source), wells.apart(well, source));
        }

        /** The sum of LOWERINGS of a well in a month by what a source drew from a month on. */
        private int lowering(int well, int month, int source, int from) {
            int row = rowBetween(well, source);
            int sum = 0;
            for (int m = Math.max(from, month - AGES + 1); m <= month; m++) {
                if (wells.isOwnMonth(source, m)) {
                    sum += drawn[source * MONTHS + m] * tables.falls[row + month - m];
                }
            }
            return sum * COUNTS_TIMES[wells.kinds[source]];
        }

        /** What the LOWERING of a well in a month grows by with each 1 more that a source draws a month. */
        private int loweringOfOneMore(int well, int month, int source, int from) {
            int row = rowBetween(well, source);
            int sum = 0;
            for (int m = Math.max(from, month - AGES + 1); m <= month; m++) {
                if (wells.isOwnMonth(source, m)) {
                    sum += tables.falls[row + month - m];
                }
            }
            return sum;
        }

        private int raisedByRain(int month) {
            int sum = 0;
            for (int m = Math.max(0, month - AGES + 1); m <= month; m++) {
                sum += rains[m] * tables.rises[month - m];
            }
            return sum;
        }

        private int headOf(int well, int month) {
            int head = wells.rests[well] + raisedByRain(month);
            for (int source = 0; source < wells.size; source++) {
                head -= lowering(well, month, source, 0);
            }
            return head;
        }

        private int aboveLimit(int well, int month) {
            return headOf(well, month) - wells.limits[well];
        }

        private void findSpare(int from) {
            for (int well = 0; well < wells.size; well++) {
                for (int month = from; month < MONTHS; month++) {
                    spare[well * MONTHS + month] = headOf(well, month) - wells.limits[well];
                }
            }
        }

        /** What is spare once a source draws more: cheaper than finding it anew for each licence. */
        private void useSpare(int source, int from, int more) {
            for (int well = 0; well < wells.size; well++) {
                for (int month = from; month < MONTHS; month++) {
                    spare[well * MONTHS + month] -= more * loweringOfOneMore(well, month, source, from);
                }
            }
        }

        /** Each 1 more lowers by the same, so the tightest well and month alone say what is FREE. */
        private int freeOf(int source, int from) {
            if (!wells.isDrawing(source)) {
                return 0;
            }
            int free = MOST;
            for (int well = 0; well < wells.size; well++) {
                for (int month = from; month < MONTHS; month++) {
                    int each = loweringOfOneMore(well, month, source, from);
                    if (each > 0) {
                        free = Math.min(free, Math.max(0, spare[well * MONTHS + month]) / each);
                    }
                }
            }
            return free;
        }

        /** What serve() begins with: the licensed wells draw nothing, and no licence is served. */
        private void unserve(int from) {
            for (int i = 0; i < licences.size; i++) {
                licences.served[i] = UNSERVED;
                for (int month = from; month < MONTHS; month++) {
                    setDraw(licences.wells[i], month, 0);
                }
            }
        }

        /** Raises the draws of a licence's well by what it may have: how much that is. */
        private int grant(int licence, int from, int free) {
            int well = licences.wells[licence];
            int more = Math.min(licences.amounts[licence], free);
            more = Math.min(more, roomForDraws(well, from));
            for (int month = from; month < MONTHS; month++) {
                if (wells.isOwnMonth(well, month)) {
                    setDraw(well, month, drawOf(well, month) + more);
                }
            }
            useSpare(well, from, more);
            licences.served[licence] = more;
            return more;
        }

        /** How much more all its draws from a month on can bear, so that none gets above 1000. */
        private int roomForDraws(int well, int from) {
            int room = MOST;
            for (int month = from; month < MONTHS; month++) {
                if (wells.isOwnMonth(well, month)) {
                    room = Math.min(room, MOST - drawOf(well, month));
                }
            }
            return room;
        }

        /** The least draw of a guard that holds its head, or more than 1000 if none does. */
        private int leastToHold(int guard, int month, int head) {
            int each = tables.falls[rowBetween(guard, guard)];
            int lacks = head - (headOf(guard, month) - drawOf(guard, month) * each);
            if (lacks <= 0) {
                return 0;
            }
            return each > 0 ? (lacks + each - 1) / each : MOST + 1;
        }

        /** A well may draw more by what the other's draw lowered, wherever its own lowers too. */
        private int mostToMove(int well, int month, int from) {
            if (!wells.isOwnMonth(well, month)) {
                return MOST;
            }
            int most = MOST;
            int spared = counted(from, month);
            for (int seen = 0; seen < wells.size; seen++) {
                int row = rowBetween(seen, well);
                int rowFrom = rowBetween(seen, from);
                for (int age = 0; age < AGES && month + age < MONTHS; age++) {
                    int each = tables.falls[row + age];
                    if (each > 0) {
                        int more = spared * tables.falls[rowFrom + age] / each;
                        most = Math.min(most, drawOf(well, month) + more);
                    }
                }
            }
            return most;
        }

        private long sumOfSquares() {
            long sum = 0;
            for (int well = 0; well < wells.size; well++) {
                for (int month = 0; month < MONTHS; month++) {
                    if (readings.has(well, month)) {
                        long difference = readings.at(well, month) - headOf(well, month);
                        sum += difference * difference;
                    }
                }
            }
            return sum;
        }

        private void take(Water from) {
            wells.take(from.wells);
            tables.take(from.tables);
            licences.take(from.licences);
            readings.take(from.readings);
            copyRow(from.drawn, drawn);
            copyRow(from.rains, rains);
        }
    }

    /** A row of numbers of 32 bits, or of floats by their bits, or nothing. */
    private static final class Sheet {
        private static final int ALL_BUT_SIGN = 0x7fffffff;
        private static final int INFINITY = 0x7f800000;
        private static final int USUAL_NO_NUMBER = 0x7fc00000;
        /** In place of all that is at least 2 to the power of 23, of either sign: no amount is so great. */
        private static final int TOO_GREAT = 1 << 23;

        private int kind = NO_SHEET;
        private int size = 0;
        private final int[] numbers = new int[SHEET_ROOM];

        private boolean isMissing() {
            return kind == NO_SHEET;
        }

        private int start(int newKind, int n) {
            kind = newKind;
            size = newKind == NO_SHEET ? 0 : n;
            clear(numbers);
            return size;
        }

        private void write(int i, int v) {
            numbers[i] = kind == FLOATS && isNoNumber(v) ? USUAL_NO_NUMBER : v;
        }

        private boolean hasPart(int from, int n) {
            return from >= 0 && n >= 0 && from <= size && n <= size - from;
        }

        private boolean startsWithNumbers(int n) {
            for (int i = 0; i < n; i++) {
                if (kind == FLOATS && isNoNumber(numbers[i])) {
                    return false;
                }
            }
            return true;
        }

        private boolean startsWithAmounts(int n) {
            for (int i = 0; i < n; i++) {
                if (!isAmount(whole(i))) {
                    return false;
                }
            }
            return true;
        }

        private int whole(int i) {
            return kind == FLOATS ? cut(numbers[i]) : numbers[i];
        }

        private static boolean isNoNumber(int bits) {
            return (bits & ALL_BUT_SIGN) > INFINITY;
        }

        /** By the bits alone, as LANGUAGE.md leaves no call that makes a float of its bits. */
        private static int cut(int bits) {
            int exponent = ((bits >>> 23) & 255) - 127;
            if (exponent < 0) {
                return 0;
            }
            if (exponent > 22) {
                return TOO_GREAT;
            }
            int whole = ((bits & 0x7fffff) | 0x800000) >> (23 - exponent);
            return bits < 0 ? -whole : whole;
        }
    }
}
