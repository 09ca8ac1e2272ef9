import java.util.ArrayList;
import java.util.List;

/**
 * The document once more, told in the slowest way: every head is summed anew from all draws, and what
 * is the greatest or least is found by trying numbers. ModelTest holds the program against it.
 */
public final class Model {
    private static final int BEYOND = Check.BEYOND;

    static final class State {
        final List<int[]> wells = new ArrayList<>();
        final List<int[]> licences = new ArrayList<>();
        final int[][] draws = new int[10][24];
        final Integer[][] readings = new Integer[10][24];
        final int[] rain = new int[24];
        final int[][][] table = new int[2][10][12];
        final int[] rainTable = new int[12];

        State copy() {
            State c = new State();
            for (int[] w : wells) {
                c.wells.add(w.clone());
            }
            for (int[] l : licences) {
                c.licences.add(l.clone());
            }
            for (int i = 0; i < 10; i++) {
                c.draws[i] = draws[i].clone();
                c.readings[i] = readings[i].clone();
                for (int layer = 0; layer < 2; layer++) {
                    c.table[layer][i] = table[layer][i].clone();
                }
            }
            System.arraycopy(rain, 0, c.rain, 0, 24);
            System.arraycopy(rainTable, 0, c.rainTable, 0, 12);
            return c;
        }

        int kind(int w) {
            return wells.get(w)[0];
        }

        boolean own(int w, int m) {
            return kind(w) != 2 || w % 2 == m % 2;
        }

        long counted(int w, int m) {
            switch (kind(w)) {
                case 2: return w % 2 == m % 2 ? draws[w][m] : 0;
                case 3:
                case 4: return -draws[w][m];
                case 5: return 0;
                default: return draws[w][m];
            }
        }

        int far(int a, int b) {
            int dx = Math.abs(wells.get(a)[1] - wells.get(b)[1]);
            int dy = Math.abs(wells.get(a)[2] - wells.get(b)[2]);
            return Math.min(9, Math.max(dx, dy));
        }

        long lowering(int p, int n, int w, int m) {
            if (n < m || n - m > 11) {
                return 0;
            }
            int deeps = (kind(p) == 1 ? 1 : 0) + (kind(w) == 1 ? 1 : 0);
            return counted(w, m) * table[deeps == 1 ? 1 : 0][far(p, w)][n - m];
        }

        long lowerings(int p, int n, int w) {
            long sum = 0;
            for (int m = 0; m < 24; m++) {
                sum += lowering(p, n, w, m);
            }
            return sum;
        }

        long raised(int n) {
            long sum = 0;
            for (int m = 0; m < 24; m++) {
                if (n >= m && n - m < 12) {
                    sum += (long) rain[m] * rainTable[n - m];
                }
            }
            return sum;
        }

        long head(int p, int n) {
            long head = wells.get(p)[3] + raised(n);
            for (int w = 0; w < wells.size(); w++) {
                head -= lowerings(p, n, w);
            }
            return head;
        }

        long[][] heads() {
            long[][] heads = new long[wells.size()][24];
            for (int p = 0; p < wells.size(); p++) {
                for (int n = 0; n < 24; n++) {
                    heads[p][n] = head(p, n);
                }
            }
            return heads;
        }

        long squares() {
            long sum = 0;
            for (int w = 0; w < wells.size(); w++) {
                for (int m = 0; m < 24; m++) {
                    if (readings[w][m] != null) {
                        long d = readings[w][m] - head(w, m);
                        sum += d * d;
                    }
                }
            }
            return sum;
        }

        int count(Object[][] rows) {
            int n = 0;
            for (Object[] row : rows) {
                for (Object o : row) {
                    n += o == null ? 0 : 1;
                }
            }
            return n;
        }
    }

    State now = new State();
    private State kept = null;
    private final Object[] sheets = new Object[4];
    private int findings = 0;

    public Model() {
        for (int d = 0; d < 10; d++) {
            now.table[0][d][0] = 100 - 10 * d;
            now.table[1][d][0] = (100 - 10 * d) / 2;
        }
        now.rainTable[0] = 10;
    }

    private int tell(int finding) {
        findings++;
        return finding;
    }

    private boolean noWell(int w) {
        return w < 0 || w >= now.wells.size();
    }

    private boolean noMonth(int m) {
        return m < 0 || m > 23;
    }

    private static boolean not(int v, int least, int greatest) {
        return v < least || v > greatest;
    }

    public int well(int kind, int x, int y, int rest) {
        if (not(kind, 0, 5) || not(x, 0, 30) || not(y, 0, 30) || not(rest, -100000, 100000)) return tell(BEYOND);
        if (now.wells.size() == 10) return tell(Check.FULL);
        now.wells.add(new int[] {kind, x, y, rest, -100000});
        return now.wells.size() - 1;
    }

    public int limit(int well, int v) {
        if (noWell(well) || not(v, -100000, 100000)) return tell(BEYOND);
        int was = now.wells.get(well)[4];
        now.wells.get(well)[4] = v;
        return was;
    }

    public int as(int well, int kind) {
        if (noWell(well) || not(kind, 0, 5)) return tell(BEYOND);
        int[] above = {-1, 0, 0, 0, 3, 0};
        for (int k = now.kind(well); k >= 0; k = above[k]) {
            if (k == kind) return well;
        }
        return tell(Check.KIND);
    }

    public int of(int well, int what) {
        if (noWell(well) || not(what, 0, 5)) return tell(BEYOND);
        if (what < 5) return now.wells.get(well)[what];
        int sum = 0;
        for (int v : now.draws[well]) {
            sum += v;
        }
        return sum;
    }

    public int distance(int well, int other) {
        if (noWell(well) || noWell(other)) return tell(BEYOND);
        return now.far(well, other);
    }

    public int table(int layer, int distance, int age, int v) {
        if (not(layer, 0, 1) || not(distance, 0, 9) || not(age, 0, 11) || not(v, 0, 1000)) return tell(BEYOND);
        if (distance > 0 && v > now.table[layer][distance - 1][age]) return tell(Check.SIZE);
        if (distance < 9 && v < now.table[layer][distance + 1][age]) return tell(Check.SIZE);
        int was = now.table[layer][distance][age];
        now.table[layer][distance][age] = v;
        return was;
    }

    public int rainTable(int age, int v) {
        if (not(age, 0, 11) || not(v, 0, 1000)) return tell(BEYOND);
        int was = now.rainTable[age];
        now.rainTable[age] = v;
        return was;
    }

    public int sheet(int s, int kind, int n) {
        if (not(s, 0, 3) || not(kind, 0, 2)) return tell(BEYOND);
        if (n < 0) return tell(Check.SIZE);
        if (n > 24) return tell(BEYOND);
        sheets[s] = kind == 0 ? null : kind == 1 ? new int[n] : new float[n];
        return kind == 0 ? 0 : n;
    }

    private static int length(Object sheet) {
        return sheet instanceof int[] wholes ? wholes.length : ((float[]) sheet).length;
    }

    public int put(int s, int i, int v) {
        if (not(s, 0, 3)) return tell(BEYOND);
        if (sheets[s] == null) return tell(Check.MISSING);
        if (i < 0 || i >= length(sheets[s])) return tell(BEYOND);
        if (sheets[s] instanceof int[] wholes) {
            wholes[i] = v;
        } else {
            ((float[]) sheets[s])[i] = Float.intBitsToFloat(v);
        }
        return 0;
    }

    public int copy(int s, int from, int t, int to, int n) {
        if (not(s, 0, 3) || not(t, 0, 3)) return tell(BEYOND);
        if (sheets[s] == null || sheets[t] == null) return tell(Check.MISSING);
        if (sheets[s].getClass() != sheets[t].getClass()) return tell(Check.KIND);
        if (from < 0 || to < 0 || n < 0) return tell(BEYOND);
        if ((long) from + n > length(sheets[s]) || (long) to + n > length(sheets[t])) return tell(BEYOND);
        System.arraycopy(sheets[s], from, sheets[t], to, n);
        return n;
    }

    public int draws(int well, int month, int s) {
        if (noWell(well) || noMonth(month) || not(s, 0, 3)) return tell(BEYOND);
        if (now.kind(well) == 5) return tell(Check.KIND);
        if (sheets[s] == null) return tell(Check.MISSING);
        int n = Math.min(length(sheets[s]), 24 - month);
        int[] cut = new int[n];
        for (int i = 0; i < n; i++) {
            if (sheets[s] instanceof float[] floats) {
                if (floats[i] != floats[i]) return tell(Check.NO_NUMBER);
                cut[i] = (int) floats[i];
            } else {
                cut[i] = ((int[]) sheets[s])[i];
            }
        }
        for (int v : cut) {
            if (not(v, 0, 1000)) return tell(BEYOND);
        }
        System.arraycopy(cut, 0, now.draws[well], month, n);
        return n;
    }

    public int draw(int well, int month, int v) {
        if (noWell(well) || noMonth(month) || not(v, 0, 1000)) return tell(BEYOND);
        if (now.kind(well) == 5) return tell(Check.KIND);
        int was = now.draws[well][month];
        now.draws[well][month] = v;
        return was;
    }

    public int counts(int well, int month) {
        if (noWell(well) || noMonth(month)) return tell(BEYOND);
        return (int) now.counted(well, month);
    }

    public int rain(int month, int v) {
        if (noMonth(month) || not(v, 0, 1000)) return tell(BEYOND);
        int was = now.rain[month];
        now.rain[month] = v;
        return was;
    }

    public int dry() {
        int n = 0;
        for (int m = 0; m < 24; m++) {
            n += now.rain[m] != 0 ? 1 : 0;
            now.rain[m] = 0;
            for (int w = 0; w < 10; w++) {
                n += now.draws[w][m] != 0 ? 1 : 0;
                now.draws[w][m] = 0;
            }
        }
        return n;
    }

    public int head(int well, int month) {
        if (noWell(well) || noMonth(month)) return tell(BEYOND);
        return (int) now.head(well, month);
    }

    public int by(int well, int month, int of) {
        if (noWell(well) || noMonth(month) || noWell(of)) return tell(BEYOND);
        return (int) now.lowerings(well, month, of);
    }

    public int rained(int well, int month) {
        if (noWell(well) || noMonth(month)) return tell(BEYOND);
        return (int) now.raised(month);
    }

    public int most(int well, int month) {
        if (noWell(well) || noMonth(month)) return tell(BEYOND);
        long greatest = 0;
        for (int w = 0; w < now.wells.size(); w++) {
            greatest = Math.max(greatest, now.lowerings(well, month, w));
        }
        for (int w = 0; w < now.wells.size() && greatest > 0; w++) {
            if (now.lowerings(well, month, w) == greatest) return w;
        }
        return tell(Check.NONE);
    }

    private static boolean low(State s, int w, int m) {
        return s.head(w, m) < s.wells.get(w)[4];
    }

    public int when(int well, int month) {
        if (noWell(well) || noMonth(month)) return tell(BEYOND);
        for (int m = month; m < 24; m++) {
            if (low(now, well, m)) return m;
        }
        return tell(Check.NONE);
    }

    public int near(int well, int month) {
        if (noWell(well) || noMonth(month)) return tell(BEYOND);
        long least = Long.MAX_VALUE;
        for (int m = month; m < 24; m++) {
            least = Math.min(least, now.head(well, m) - now.wells.get(well)[4]);
        }
        return (int) least;
    }

    public int low(int month) {
        if (noMonth(month)) return tell(BEYOND);
        int n = 0;
        for (int w = 0; w < now.wells.size(); w++) {
            n += low(now, w, month) ? 1 : 0;
        }
        return n;
    }

    public int without(int well, int month, int of, int from) {
        if (noWell(well) || noMonth(month) || noWell(of) || noMonth(from)) return tell(BEYOND);
        State other = now.copy();
        for (int m = from; m < 24; m++) {
            other.draws[of][m] = 0;
        }
        return (int) (other.head(well, month) - now.head(well, month));
    }

    private boolean bears(int well, int month, int q) {
        State with = now.copy();
        for (int m = month; m < 24; m++) {
            with.draws[well][m] += now.own(well, m) ? q : 0;
        }
        for (int p = 0; p < now.wells.size(); p++) {
            for (int n = month; n < 24; n++) {
                if (!low(now, p, n) && low(with, p, n)) return false;
                if (low(now, p, n) && with.head(p, n) < now.head(p, n)) return false;
            }
        }
        return true;
    }

    private int freeOf(int well, int month) {
        if (now.kind(well) > 2) return 0;
        int least = 0;
        int most = 1000;
        while (least < most) {
            int q = (least + most + 1) / 2;
            if (bears(well, month, q)) {
                least = q;
            } else {
                most = q - 1;
            }
        }
        return least;
    }

    public int free(int well, int month) {
        if (noWell(well) || noMonth(month)) return tell(BEYOND);
        return freeOf(well, month);
    }

    public int licence(int well, int age, int amount) {
        if (noWell(well) || not(age, 0, 9999) || not(amount, 0, 1000)) return tell(BEYOND);
        if (now.kind(well) > 2) return tell(Check.KIND);
        if (now.licences.size() == 10) return tell(Check.FULL);
        now.licences.add(new int[] {well, age, amount, -1});
        return now.licences.size() - 1;
    }

    public int serve(int month) {
        if (noMonth(month)) return tell(BEYOND);
        for (int[] l : now.licences) {
            for (int m = month; m < 24; m++) {
                now.draws[l[0]][m] = 0;
            }
        }
        List<int[]> order = new ArrayList<>(now.licences);
        order.sort((a, b) -> a[1] - b[1]);
        int sum = 0;
        for (int[] l : order) {
            int q = Math.min(l[2], freeOf(l[0], month));
            for (int m = month; m < 24; m++) {
                if (now.own(l[0], m)) q = Math.min(q, 1000 - now.draws[l[0]][m]);
            }
            for (int m = month; m < 24; m++) {
                if (now.own(l[0], m)) now.draws[l[0]][m] += q;
            }
            l[3] = q;
            sum += q;
        }
        return sum;
    }

    public int served(int licence, boolean lacks) {
        if (licence < 0 || licence >= now.licences.size()) return tell(BEYOND);
        int[] l = now.licences.get(licence);
        if (l[3] < 0) return tell(Check.NONE);
        return lacks ? l[2] - l[3] : l[3];
    }

    public int hold(int well, int month, int head) {
        if (noWell(well) || noMonth(month) || not(head, -100000, 100000)) return tell(BEYOND);
        if (now.kind(well) != 4) return tell(Check.KIND);
        int was = now.draws[well][month];
        for (int q = 0; q <= 1000; q++) {
            now.draws[well][month] = q;
            if (now.head(well, month) >= head) return q;
        }
        now.draws[well][month] = was;
        return tell(Check.NONE);
    }

    public int move(int well, int month, int from) {
        if (noWell(well) || noWell(from) || well == from || noMonth(month)) return tell(BEYOND);
        if (now.kind(well) > 2 || now.kind(from) > 2) return tell(Check.KIND);
        long[][] heads = now.heads();
        int least = 0;
        int most = 1000;
        now.draws[from][month] = 0;
        while (least < most) {
            int q = (least + most + 1) / 2;
            now.draws[well][month] = q;
            if (noneLower(heads, now.heads())) {
                least = q;
            } else {
                most = q - 1;
            }
        }
        now.draws[well][month] = least;
        return least;
    }

    private static boolean noneLower(long[][] was, long[][] is) {
        for (int w = 0; w < was.length; w++) {
            for (int m = 0; m < 24; m++) {
                if (is[w][m] < was[w][m]) return false;
            }
        }
        return true;
    }

    public int read(int well, int month, int v) {
        if (noWell(well) || noMonth(month) || not(v, -100000000, 100000000)) return tell(BEYOND);
        if (now.readings[well][month] == null && now.count(now.readings) == 40) return tell(Check.FULL);
        now.readings[well][month] = v;
        return now.count(now.readings);
    }

    public int differ(int well, int month) {
        if (noWell(well) || noMonth(month)) return tell(BEYOND);
        if (now.readings[well][month] == null) return tell(Check.NONE);
        return (int) (now.readings[well][month] - now.head(well, month));
    }

    public int fit(int layer, int age) {
        if (not(layer, 0, 1) || not(age, 0, 11)) return tell(BEYOND);
        if (now.count(now.readings) == 0) return tell(Check.NONE);
        State best = null;
        int bestF = 0;
        for (int f = 150; f >= 50; f -= 10) {
            State tried = now.copy();
            for (int d = 0; d < 10; d++) {
                tried.table[layer][d][age] = Math.min(1000, now.table[layer][d][age] * f / 100);
            }
            if (best == null || tried.squares() <= best.squares()) {
                best = tried;
                bestF = f;
            }
        }
        now = best;
        return bestF;
    }

    public long squares() {
        return now.squares();
    }

    public int keep() {
        kept = now.copy();
        return now.wells.size();
    }

    public int back() {
        if (kept == null) return tell(Check.NONE);
        now = kept.copy();
        return now.wells.size();
    }

    public int told(int what) {
        if (not(what, 0, 3)) return tell(BEYOND);
        int[] told = {now.wells.size(), now.licences.size(), now.count(now.readings), findings};
        return told[what];
    }
}
