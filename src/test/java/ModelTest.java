import java.lang.reflect.Method;
import java.util.Arrays;
import java.util.Random;

/** Many mixed runs of calls, each answer held against that of Model; the seeds make them the same each time. */
final class ModelTest {
    private static final int RUNS = 480;
    /** What a call answers behind this many is free, so a run ends there. */
    private static final int MOST_CALLS = 512;
    /** Those kept for the heads at the end of a run. */
    private static final int LAST_CALLS = 80;
    private static final int[] EDGES = {Integer.MIN_VALUE, -100000001, -100001, -1, 0, 1, 2, 5, 6, 9, 10, 11, 12, 23,
        24, 25, 30, 31, 999, 1000, 1001, 9999, 10000, 100000, 100001, 100000000, 100000001, Integer.MAX_VALUE};
    private static final String[] HEADS = {"head", "counts", "rained", "most", "when", "near", "free", "differ"};

    private final Random random;
    private final WellField program = new WellField();
    private final Model model = new Model();
    private final StringBuilder history = new StringBuilder();
    private boolean wrong = false;
    private int calls = 0;

    private ModelTest(long seed) {
        random = new Random(seed);
    }

    public static void main(String[] args) throws Exception {
        for (int run = 0; run < RUNS; run++) {
            ModelTest test = new ModelTest(20261118L + run);
            test.run(run);
            if (test.wrong) {
                System.out.println("run " + run + ":\n" + test.history);
                break;
            }
        }
        Check.finish();
    }

    private void run(int run) throws Exception {
        int wells = 1 + random.nextInt(run % 3 == 0 ? 10 : 4);
        for (int i = 0; i < wells; i++) {
            call("well", kind(), random.nextInt(12), random.nextInt(12), rest());
        }
        if (run % 2 == 0) {
            fillTables(run % 4 == 0 ? 4 : 40);
        }
        if (run % 8 == 1) {
            fillReadings();
        }
        while (calls < MOST_CALLS - LAST_CALLS && !wrong) {
            step();
        }
        call("squares");
        call("told", 3);
        int size = Math.max(1, model.now.wells.size());
        for (int i = 0; calls < MOST_CALLS && !wrong; i++) {
            call("head", i % size, random.nextInt(24));
        }
    }

    /** Numbers for a third of all ages, alike or falling with the distance; a small step stands for small numbers. */
    private void fillTables(int step) throws Exception {
        for (int layer = 0; layer < 2; layer++) {
            for (int age = 0; age < 12; age++) {
                if (random.nextInt(3) > 0) {
                    continue;
                }
                int v = 100 + random.nextInt(step);
                call("table", layer, 0, age, v);
                for (int distance = 1; distance < 10; distance++) {
                    v = Math.max(age == 0 ? 100 - 10 * distance : 0, v - random.nextInt(step));
                    call("table", layer, distance, age, v);
                }
                if (step < 10) {
                    shrinkTables(layer, age);
                }
            }
        }
    }

    /** To numbers of 0 to 3, from far to near, as each may not be below the next. */
    private void shrinkTables(int layer, int age) throws Exception {
        int v = 0;
        for (int distance = 9; distance >= 0; distance--) {
            v = Math.min(3, v + random.nextInt(2) * random.nextInt(2));
            call("table", layer, distance, age, v);
        }
    }

    private void fillReadings() throws Exception {
        for (int i = 0; i < 60; i++) {
            call("read", well(), month(), random.nextInt(20000) - 10000);
        }
    }

    private void call(String name, Object... args) throws Exception {
        if (wrong || calls >= MOST_CALLS) {
            return;
        }
        calls++;
        Class<?>[] types = new Class<?>[args.length];
        for (int i = 0; i < args.length; i++) {
            types[i] = args[i] instanceof Boolean ? boolean.class : int.class;
        }
        Method asked = WellField.class.getMethod(name, types);
        Method due = Model.class.getMethod(name, types);
        long got = ((Number) asked.invoke(program, args)).longValue();
        long want = ((Number) due.invoke(model, args)).longValue();
        String told = name + Arrays.toString(args);
        history.append(told).append(" = ").append(want).append('\n');
        Check.due(told, got, want);
        wrong = got != want;
        if (want < -999999999L && !wrong && calls < MOST_CALLS) {
            calls++;
            want = model.told(3);
            got = program.told(3);
            Check.due(told + ", then told(3)", got, want);
            wrong = got != want;
        }
    }

    private void step() throws Exception {
        switch (random.nextInt(30)) {
            case 0: call("well", kind(), edgy(31), edgy(31), rest()); break;
            case 1: limits(); break;
            case 2: call("as", well(), edgy(6)); break;
            case 3: call("of", well(), edgy(6)); break;
            case 4: call("distance", well(), well()); break;
            case 5:
            case 6:
            case 7: table(); break;
            case 8: call("rainTable", edgy(12), edgy(40)); break;
            case 9: call("sheet", edgy(4), edgy(3), edgy(25)); break;
            case 10: call("put", edgy(4), edgy(24), float32()); break;
            case 11: call("copy", edgy(4), edgy(4), edgy(4), edgy(4), edgy(6)); break;
            case 12: sheets(); break;
            case 13:
            case 14:
            case 15:
            case 16: call("draw", well(), month(), amount()); break;
            case 17: call("rain", month(), amount()); break;
            case 18: call(random.nextInt(6) == 0 ? "dry" : "squares"); break;
            case 19: call("by", well(), month(), well()); break;
            case 20: call("without", well(), month(), well(), month()); break;
            case 21: call("low", month()); break;
            case 22: call("licence", well(), random.nextBoolean() ? random.nextInt(4) : edgy(9999), amount()); break;
            case 23: serve(); break;
            case 24: hold(); break;
            case 25: call("move", well(), month(), well()); break;
            case 26: read(); break;
            case 27: call("fit", edgy(2), random.nextBoolean() ? 0 : edgy(12)); break;
            case 28: whole(); break;
            default: heads(); break;
        }
    }

    /** A sheet mostly of one kind and filled, and then drawn by: else nearly none were of use. */
    private void sheets() throws Exception {
        int s = random.nextInt(4);
        int kind = 1 + random.nextInt(2);
        int n = random.nextInt(6);
        call("sheet", s, kind, n);
        for (int i = 0; i < n; i++) {
            int good = kind == 1 ? amount() : Float.floatToRawIntBits(random.nextFloat() * 1001f - 0.9f);
            call("put", s, i, random.nextInt(12) == 0 ? float32() : good);
        }
        call("draws", well(), month(), s);
        call("copy", s, random.nextInt(n + 1), edgy(4), edgy(3), random.nextInt(n + 1));
        call("draws", well(), month(), edgy(4));
    }

    private void serve() throws Exception {
        if (random.nextInt(3) == 0) {
            call("serve", month());
        }
        for (int i = 0; i < 4; i++) {
            call("served", edgy(Math.max(1, model.now.licences.size())), random.nextBoolean());
        }
    }

    /** Mostly a limit somewhat below a head, so that something is FREE, but not all. */
    private void limits() throws Exception {
        int w = well();
        boolean real = w >= 0 && w < model.now.wells.size();
        if (real && random.nextInt(4) > 0) {
            long below = model.now.head(w, random.nextInt(24)) - random.nextInt(40000);
            call("limit", w, (int) Math.max(-100000, Math.min(100000, below)));
        } else {
            call("limit", w, limit());
        }
    }

    private void heads() throws Exception {
        for (String name : HEADS) {
            call(name, well(), month());
        }
    }

    private void hold() throws Exception {
        int w = well();
        int m = month();
        boolean real = w >= 0 && w < model.now.wells.size() && m >= 0 && m < 24;
        int head = real && random.nextBoolean() ? (int) model.now.head(w, m) + random.nextInt(5000) - 1000 : limit();
        call("hold", w, m, head);
    }

    private void read() throws Exception {
        for (int i = 0; i < 3; i++) {
            int w = well();
            int m = month();
            boolean real = w >= 0 && w < model.now.wells.size() && m >= 0 && m < 24;
            call("read", w, m, real ? (int) model.now.head(w, m) + random.nextInt(20000) - 10000 : edgy(5));
            call("differ", w, m);
        }
    }

    private void whole() throws Exception {
        int which = random.nextInt(4);
        if (which == 0) {
            call("keep");
        } else if (which == 1) {
            call("back");
        } else {
            call("told", edgy(4));
        }
    }

    /** Mostly a number that the neighbours leave room for, as else nearly all were SIZE. */
    private void table() throws Exception {
        int layer = edgy(2);
        int distance = edgy(10);
        int age = random.nextInt(3) == 0 ? edgy(12) : random.nextInt(3);
        boolean real = layer >= 0 && layer < 2 && distance >= 0 && distance < 10 && age >= 0 && age < 12;
        int v = edgy(1001);
        if (real && random.nextInt(5) > 0) {
            int most = distance == 0 ? 300 : model.now.table[layer][distance - 1][age];
            int least = distance == 9 ? 0 : model.now.table[layer][distance + 1][age];
            v = most < least ? least : least + random.nextInt(most - least + 1);
        }
        call("table", layer, distance, age, v);
    }

    /** Mostly one of 0 to below, seldom an edge of the document or of int. */
    private int edgy(int below) {
        return random.nextInt(25) == 0 ? EDGES[random.nextInt(EDGES.length)] : random.nextInt(below);
    }

    private int well() {
        return edgy(Math.max(1, model.now.wells.size()));
    }

    private int month() {
        return edgy(24);
    }

    private int kind() {
        return random.nextInt(30) == 0 ? edgy(6) : new int[] {0, 1, 2, 2, 3, 4, 5, 0}[random.nextInt(8)];
    }

    private int amount() {
        int which = random.nextInt(4);
        return which == 0 ? edgy(1001) : which == 1 ? random.nextInt(10) : random.nextInt(200);
    }

    private int rest() {
        return random.nextBoolean() ? random.nextInt(200001) - 100000 : edgy(20000);
    }

    private int limit() {
        int which = random.nextInt(3);
        return which == 0 ? edgy(100) : random.nextInt(200001) - 100000;
    }

    private int float32() {
        int which = random.nextInt(8);
        if (which < 2) {
            return which == 0 ? random.nextInt() : random.nextInt(3) == 0 ? 0x7fc00000 : 0;
        }
        return which < 5 ? random.nextInt(1100) - 20 : Float.floatToRawIntBits(random.nextFloat() * 1020f - 5f);
    }
}
