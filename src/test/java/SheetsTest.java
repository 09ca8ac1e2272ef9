/** Promises 9 to 16: sheet, put, copy, draws, draw, counts, rain, dry. */
final class SheetsTest {
    public static void main(String[] args) {
        sheet();
        put();
        copy();
        copyOverItself();
        draws();
        drawsFindings();
        drawsOfFloats();
        draw();
        counts();
        rain();
        dry();
        Check.finish();
    }

    private static void sheet() {
        WellField x = new WellField();
        x.well(0, 0, 0, 0);
        Check.due("sheet: s 4", x.sheet(4, 1, 1), Check.BEYOND);
        Check.due("sheet: s -1", x.sheet(-1, 1, 1), Check.BEYOND);
        Check.due("sheet: kind 3", x.sheet(0, 3, -1), Check.BEYOND);
        Check.due("sheet: kind -1", x.sheet(0, -1, 1), Check.BEYOND);
        Check.due("sheet: n -1", x.sheet(0, 1, -1), Check.SIZE);
        Check.due("sheet: n least", x.sheet(0, 2, Integer.MIN_VALUE), Check.SIZE);
        Check.due("sheet: n 25", x.sheet(0, 1, 25), Check.BEYOND);
        Check.due("sheet: n -1 of kind 0", x.sheet(0, 0, -1), Check.SIZE);
        Check.due("sheet: n 25 of kind 0", x.sheet(0, 0, 25), Check.BEYOND);
        Check.due("sheet: findings made none", x.put(0, 0, 1), Check.MISSING);
        Check.due("sheet: 24", x.sheet(3, 1, 24), 24);
        Check.due("sheet: last number", x.put(3, 23, 9), 0);
        Check.due("sheet: 0", x.sheet(2, 2, 0), 0);
        Check.due("sheet: of 0 is not MISSING", x.draws(0, 0, 2), 0);
        Check.due("sheet: has none", x.put(2, 0, 1), Check.BEYOND);
        Check.due("sheet: kind 0", x.sheet(3, 0, 5), 0);
        Check.due("sheet: kind 0 is MISSING", x.put(3, 0, 1), Check.MISSING);
        x.sheet(1, 1, 3);
        x.put(1, 0, 7);
        Check.due("sheet: anew", x.sheet(1, 1, 2), 2);
        x.draws(0, 0, 1);
        Check.due("sheet: all 0 anew", x.of(0, 5), 0);
    }

    private static void put() {
        WellField x = new WellField();
        x.well(0, 0, 0, 0);
        Check.due("put: s 4", x.put(4, 0, 0), Check.BEYOND);
        Check.due("put: s -1", x.put(-1, 0, 0), Check.BEYOND);
        Check.due("put: MISSING ahead of BEYOND", x.put(0, 24, 0), Check.MISSING);
        x.sheet(0, 1, 3);
        Check.due("put: i 3", x.put(0, 3, 0), Check.BEYOND);
        Check.due("put: i -1", x.put(0, -1, 0), Check.BEYOND);
        Check.due("put: i 2", x.put(0, 2, 12), 0);
        Check.due("put: bits of no number in wholes are a number", x.put(0, 1, 0x7fc00000), 0);
        Check.due("put: a whole too great", x.draws(0, 0, 0), Check.BEYOND);
        x.put(0, 1, 3);
        x.draws(0, 0, 0);
        Check.due("put: month 1", x.draw(0, 1, 0), 3);
        Check.due("put: month 2", x.draw(0, 2, 0), 12);
    }

    private static void copy() {
        WellField x = new WellField();
        x.well(0, 0, 0, 0);
        x.sheet(0, 1, 4);
        x.sheet(1, 1, 6);
        x.sheet(2, 2, 6);
        for (int i = 0; i < 4; i++) {
            x.put(0, i, i + 1);
        }
        Check.due("copy: s 4", x.copy(4, 0, 3, 0, 1), Check.BEYOND);
        Check.due("copy: t 4", x.copy(3, 0, 4, 0, 1), Check.BEYOND);
        Check.due("copy: from a MISSING one", x.copy(3, -1, 0, 0, 1), Check.MISSING);
        Check.due("copy: to a MISSING one", x.copy(0, 0, 3, 0, 1), Check.MISSING);
        Check.due("copy: KIND ahead of BEYOND", x.copy(0, 0, 2, 0, 99), Check.KIND);
        Check.due("copy: from -1", x.copy(0, -1, 1, 0, 1), Check.BEYOND);
        Check.due("copy: to -1", x.copy(0, 0, 1, -1, 1), Check.BEYOND);
        Check.due("copy: n -1", x.copy(0, 1, 1, 1, -1), Check.BEYOND);
        Check.due("copy: not so many", x.copy(0, 2, 1, 0, 3), Check.BEYOND);
        Check.due("copy: no room", x.copy(0, 0, 1, 3, 4), Check.BEYOND);
        Check.due("copy: n greatest", x.copy(0, 1, 1, 1, Integer.MAX_VALUE), Check.BEYOND);
        Check.due("copy: from greatest", x.copy(0, Integer.MAX_VALUE, 1, 0, 1), Check.BEYOND);
        Check.due("copy: to greatest", x.copy(0, 0, 1, Integer.MAX_VALUE, 1), Check.BEYOND);
        Check.due("copy: none behind the end", x.copy(0, 5, 1, 0, 0), Check.BEYOND);
        Check.due("copy: none at the end", x.copy(0, 4, 1, 6, 0), 0);
        Check.due("copy: findings changed nothing", sumOf(x, 1), 0);
        Check.due("copy: 3", x.copy(0, 1, 1, 3, 3), 3);
        Check.due("copy: to the end", sumOf(x, 1), 2 + 3 + 4);
        Check.due("copy: at its place", x.draw(0, 3, 0), 2);
        Check.due("copy: what was there stays", sumOf(x, 0), 10);
    }

    private static int sumOf(WellField x, int s) {
        for (int month = 0; month < 24; month++) {
            x.draw(0, month, 0);
        }
        x.draws(0, 0, s);
        return x.of(0, 5);
    }

    private static void copyOverItself() {
        for (int way = 0; way < 2; way++) {
            WellField x = new WellField();
            x.well(0, 0, 0, 0);
            x.sheet(0, 1, 5);
            for (int i = 0; i < 5; i++) {
                x.put(0, i, i + 1);
            }
            int[] due = way == 0 ? new int[] {1, 1, 2, 3, 4} : new int[] {2, 3, 4, 5, 5};
            Check.due("copy: over itself", x.copy(0, 1 - (1 - way), 0, 1 - way, 4), 4);
            x.draws(0, 0, 0);
            for (int i = 0; i < 5; i++) {
                Check.due("copy: over itself, number " + i, x.draw(0, i, 0), due[i]);
            }
        }
    }

    private static void draws() {
        WellField x = Check.ofAllKinds();
        x.sheet(0, 1, 4);
        for (int i = 0; i < 4; i++) {
            x.put(0, i, 10 + i);
        }
        x.draw(0, 4, 500);
        x.draw(0, 9, 600);
        Check.due("draws: 4", x.draws(0, 5, 0), 4);
        Check.due("draws: ahead stays", x.draw(0, 4, 0), 500);
        Check.due("draws: behind stays", x.draw(0, 9, 0), 600);
        Check.due("draws: sum", x.of(0, 5), 46);
        Check.due("draws: first", x.draw(0, 5, 0), 10);
        Check.due("draws: last", x.draw(0, 8, 0), 13);
        x.put(0, 2, -1);
        Check.due("draws: month 22, what is not needed is not asked", x.draws(1, 22, 0), 2);
        Check.due("draws: month 23", x.draw(1, 23, 0), 11);
        Check.due("draws: one is -1", x.draws(1, 0, 0), Check.BEYOND);
        Check.due("draws: nothing changed", x.of(1, 5), 10);
        x.put(0, 2, 1001);
        Check.due("draws: one is 1001", x.draws(1, 0, 0), Check.BEYOND);
        x.put(0, 2, 1000);
        Check.due("draws: one is 1000", x.draws(1, 0, 0), 4);
        Check.due("draws: a filling's", x.draws(3, 0, 0), 4);
        Check.due("draws: a guard's", x.draws(4, 23, 0), 1);
    }

    private static void drawsFindings() {
        WellField x = Check.ofAllKinds();
        x.sheet(1, 2, 2);
        x.put(1, 0, Float.floatToIntBits(-1f));
        x.put(1, 1, 0x7fc00000);
        Check.due("draws: no well", x.draws(6, 0, 0), Check.BEYOND);
        Check.due("draws: month 24", x.draws(5, 24, 0), Check.BEYOND);
        Check.due("draws: month -1", x.draws(5, -1, 0), Check.BEYOND);
        Check.due("draws: sheet 4", x.draws(5, 0, 4), Check.BEYOND);
        Check.due("draws: sheet -1", x.draws(5, 0, -1), Check.BEYOND);
        Check.due("draws: KIND ahead of MISSING", x.draws(5, 0, 0), Check.KIND);
        Check.due("draws: MISSING", x.draws(0, 0, 0), Check.MISSING);
        Check.due("draws: NO_NUMBER ahead of BEYOND", x.draws(0, 0, 1), Check.NO_NUMBER);
        Check.due("draws: the other is not needed", x.draws(0, 23, 1), Check.BEYOND);
        Check.due("draws: nothing changed", x.of(0, 5), 0);
    }

    private static void drawsOfFloats() {
        float[] floats = {0f, -0f, 0.999999f, -0.999999f, 1f, 1.999f, 2.5f, 999.99994f, 1000f, 1000.99994f,
            Float.MIN_VALUE, -Float.MIN_VALUE, 512.5f, 3.1415927f};
        for (float f : floats) {
            Check.due("draws: " + f, drawnOf(Float.floatToRawIntBits(f)), (int) f);
        }
        float[] beyond = {-1f, 1001f, 1024f, -1000f, 8388607.5f, 8388608f, 1e10f, 4294967296f, 4294967808f,
            -4294967296f, Float.MAX_VALUE, -Float.MAX_VALUE, Float.POSITIVE_INFINITY, Float.NEGATIVE_INFINITY};
        for (float f : beyond) {
            Check.due("draws: " + f, drawnOf(Float.floatToRawIntBits(f)), Check.BEYOND);
        }
        int[] noNumbers = {0x7f800001, 0x7fc00000, 0x7fffffff, 0xff800001, 0xffc00000, -1};
        for (int bits : noNumbers) {
            Check.due("draws: bits " + bits, drawnOf(bits), Check.NO_NUMBER);
        }
    }

    /** What a well draws by a sheet of the one float, or the finding. */
    private static int drawnOf(int bits) {
        WellField x = new WellField();
        x.well(0, 0, 0, 0);
        x.sheet(0, 2, 1);
        x.sheet(1, 2, 1);
        x.put(0, 0, bits);
        x.copy(0, 0, 1, 0, 1);
        int answer = x.draws(0, 3, 1);
        return answer == 1 ? x.of(0, 5) : answer;
    }

    private static void draw() {
        WellField x = Check.ofAllKinds();
        Check.due("draw: first", x.draw(0, 23, 1000), 0);
        Check.due("draw: was", x.draw(0, 23, 4), 1000);
        Check.due("draw: above", x.draw(0, 23, 1001), Check.BEYOND);
        Check.due("draw: below", x.draw(0, 23, -1), Check.BEYOND);
        Check.due("draw: month 24", x.draw(0, 24, 0), Check.BEYOND);
        Check.due("draw: month -1", x.draw(1, -1, 0), Check.BEYOND);
        Check.due("draw: no well", x.draw(6, 0, 0), Check.BEYOND);
        Check.due("draw: POST", x.draw(5, 0, 0), Check.KIND);
        Check.due("draw: BEYOND ahead of KIND", x.draw(5, 0, 1001), Check.BEYOND);
        Check.due("draw: it stands", x.draw(0, 23, 0), 4);
    }

    private static void counts() {
        WellField x = Check.ofAllKinds();
        for (int i = 0; i < 4; i++) {
            x.well(2, 0, 0, 0);
        }
        for (int well = 0; well < 10; well++) {
            for (int month = 0; month < 24; month++) {
                x.draw(well, month, 7 + month);
            }
        }
        for (int month = 0; month < 24; month++) {
            int v = 7 + month;
            int[] due = {v, v, month % 2 == 0 ? v : 0, -v, -v, 0};
            for (int well = 0; well < 6; well++) {
                Check.due("counts(" + well + ", " + month + ")", x.counts(well, month), due[well]);
            }
            for (int well = 6; well < 10; well++) {
                Check.due("counts(" + well + ", " + month + ")", x.counts(well, month), well % 2 == month % 2 ? v : 0);
            }
        }
        Check.due("counts: no well", x.counts(10, 0), Check.BEYOND);
        Check.due("counts: well -1", x.counts(-1, 0), Check.BEYOND);
        Check.due("counts: month 24", x.counts(0, 24), Check.BEYOND);
        Check.due("counts: month -1", x.counts(1, -1), Check.BEYOND);
    }

    private static void rain() {
        WellField x = new WellField();
        Check.due("rain: first", x.rain(0, 1000), 0);
        Check.due("rain: was", x.rain(0, 5), 1000);
        Check.due("rain: above", x.rain(0, 1001), Check.BEYOND);
        Check.due("rain: below", x.rain(0, -1), Check.BEYOND);
        Check.due("rain: month 24", x.rain(24, 0), Check.BEYOND);
        Check.due("rain: month -1", x.rain(-1, 0), Check.BEYOND);
        Check.due("rain: month 23", x.rain(23, 6), 0);
        Check.due("rain: it stands", x.rain(0, 0), 5);
    }

    private static void dry() {
        WellField x = Check.ofAllKinds();
        x.draw(0, 0, 1);
        x.draw(2, 1, 1);
        x.draw(4, 23, 1000);
        x.draw(3, 3, 9);
        x.draw(3, 3, 0);
        x.rain(0, 1);
        x.rain(23, 3);
        x.read(0, 0, 5);
        x.licence(0, 1, 1);
        x.limit(0, 77);
        Check.due("dry: those not 0, whether they count or not", x.dry(), 5);
        Check.due("dry: again", x.dry(), 0);
        Check.due("dry: head", x.head(0, 0), 0);
        Check.due("dry: rain", x.rain(23, 0), 0);
        Check.due("dry: draws", x.of(4, 5), 0);
        Check.due("dry: readings stay", x.differ(0, 0), 5);
        Check.due("dry: licences stay", x.told(1), 1);
        Check.due("dry: limits stay", x.of(0, 4), 77);
        Check.due("dry: tables stay", x.table(0, 0, 0, 100), 100);
        Check.due("dry: rain's table stays", x.rainTable(0, 10), 10);
    }
}
