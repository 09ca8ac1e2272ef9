/**
 * The document's boundary cases, sentence by sentence, for promises 1 to 24: none, one, as many as there may be, and
 * one more; the last that still is so and the first that is not. Promises 25 to 37 are in EdgesOfServingTest.
 */
final class EdgesTest {
    public static void main(String[] args) {
        newObject();
        tenWells();
        limits();
        kindsUnderKinds();
        allDraws();
        distances();
        tableBetweenNeighbours();
        rainTable();
        sheetsOfAllSizes();
        sheetAnew();
        putAtTheEdges();
        copyAtTheEdges();
        drawsTillMonth23();
        drawsOfEdgeNumbers();
        drawAndRain();
        countsOfPaired();
        dryOfNoneAndAll();
        headOfTheLastAge();
        headsAtTheirBounds();
        byAtItsBounds();
        rainedAtItsBounds();
        mostOfTen();
        lowByOne();
        nearTheLastMonth();
        lowOfTen();
        withoutFromTheEdges();
        Check.finish();
    }

    private static void newObject() {
        WellField x = new WellField();
        Check.due("new: no well", x.of(0, 0), Check.BEYOND);
        Check.due("new: no licence", x.served(0, false), Check.BEYOND);
        Check.due("new: nothing is kept", x.back(), Check.NONE);
        Check.due("new: no readings", x.fit(0, 0), Check.NONE);
        for (int month = 0; month < 24; month++) {
            Check.due("new: no rain in " + month, x.rain(month, 0), 0);
        }
        for (int s = 0; s < 4; s++) {
            Check.due("new: sheet " + s + " is MISSING", x.copy(s, 0, s, 0, 0), Check.MISSING);
        }
        x.well(0, 0, 0, 8);
        for (int month = 0; month < 24; month++) {
            Check.due("new: draw in " + month, x.draw(0, month, 0), 0);
            Check.due("new: head in " + month, x.head(0, month), 8);
        }
        Check.due("new: LIMIT", x.of(0, 4), -100000);
    }

    /** "FULL: there are 10." */
    private static void tenWells() {
        WellField x = new WellField();
        Check.due("well: none", x.told(0), 0);
        Check.due("keep: none", x.keep(), 0);
        for (int i = 0; i < 10; i++) {
            Check.due("well: number " + i, x.well(5 - i % 6, i, 30 - i, -i), i);
            Check.due("well: how many", x.told(0), i + 1);
            Check.due("well: the next is none yet", x.head(i + 1, 0), Check.BEYOND);
        }
        for (int i = 0; i < 2; i++) {
            Check.due("well: one more", x.well(0, 0, 0, 0), Check.FULL);
        }
        for (int i = 0; i < 10; i++) {
            Check.due("well: kind of " + i, x.of(i, 0), 5 - i % 6);
            Check.due("well: x of " + i, x.of(i, 1), i);
            Check.due("well: y of " + i, x.of(i, 2), 30 - i);
            Check.due("well: REST of " + i, x.of(i, 3), -i);
            Check.due("well: LIMIT of " + i, x.of(i, 4), -100000);
        }
        Check.due("well: back to none", x.back(), 0);
        Check.due("well: there is room again", x.well(0, 0, 0, 0), 0);
    }

    private static void limits() {
        WellField x = new WellField();
        for (int i = 0; i < 10; i++) {
            x.well(i % 6, 0, 0, 0);
        }
        for (int i = 0; i < 10; i++) {
            Check.due("limit: of kind " + i % 6, x.limit(i, i % 2 == 0 ? 100000 : -100000), -100000);
        }
        for (int i = 0; i < 10; i++) {
            Check.due("limit: each has its own", x.limit(i, i), i % 2 == 0 ? 100000 : -100000);
        }
        Check.due("limit: no eleventh", x.limit(10, 0), Check.BEYOND);
        Check.due("limit: the tenth", x.of(9, 4), 9);
    }

    /** "KIND: it is not of that kind, nor of one under it." */
    private static void kindsUnderKinds() {
        String[] under = {"0", "01", "02", "03", "034", "05"};
        WellField x = Check.ofAllKinds();
        for (int well = 0; well < 6; well++) {
            for (int kind = 0; kind < 6; kind++) {
                boolean is = under[well].indexOf('0' + kind) >= 0;
                Check.due("as(" + well + ", " + kind + ")", x.as(well, kind), is ? well : Check.KIND);
            }
        }
    }

    private static void allDraws() {
        WellField x = Check.ofAllKinds();
        for (int well = 0; well < 5; well++) {
            Check.due("of: no draws", x.of(well, 5), 0);
            x.draw(well, 23, 1);
            Check.due("of: one", x.of(well, 5), 1);
            for (int month = 0; month < 24; month++) {
                x.draw(well, month, 1000);
            }
            Check.due("of: all its draws, as told", x.of(well, 5), 24000);
        }
        Check.due("of: of a POST", x.of(5, 5), 0);
        Check.due("of: what 6", x.of(0, 6), Check.BEYOND);
        Check.due("of: what -1", x.of(0, -1), Check.BEYOND);
    }

    /** "the greater one of what their x and their y differ by, and 9 when it is more" */
    private static void distances() {
        int[][] places = {{0, 0, 0}, {1, 0, 1}, {0, 1, 1}, {1, 1, 1}, {8, 7, 8}, {8, 9, 9}, {10, 0, 9}, {0, 10, 9},
            {30, 30, 9}, {9, 30, 9}};
        WellField x = new WellField();
        for (int[] place : places) {
            x.well(place[0] % 6, place[0], place[1], 0);
        }
        for (int i = 0; i < 10; i++) {
            Check.due("distance(0, " + i + ")", x.distance(0, i), places[i][2]);
            Check.due("distance(" + i + ", 0)", x.distance(i, 0), places[i][2]);
            Check.due("distance of one to itself", x.distance(i, i), 0);
        }
        Check.due("distance: the greatest", x.distance(1, 8), 9);
        Check.due("distance: x differs more", x.distance(6, 1), 9);
        Check.due("distance: y differs more", x.distance(4, 5), 2);
        Check.due("distance: no eleventh", x.distance(0, 10), Check.BEYOND);
    }

    /** "SIZE: it would be above that of the distance one less (same layer and age), or below that of one more." */
    private static void tableBetweenNeighbours() {
        for (int layer = 0; layer < 2; layer++) {
            int by = layer + 1;
            for (int distance = 0; distance < 10; distance++) {
                int least = distance == 9 ? 0 : (90 - 10 * distance) / by;
                int greatest = distance == 0 ? 1000 : (110 - 10 * distance) / by;
                int first = (100 - 10 * distance) / by;
                WellField x = new WellField();
                String call = "table(" + layer + ", " + distance + ", 0, ";
                Check.due(call + "one too small", x.table(layer, distance, 0, least - 1),
                    distance == 9 ? Check.BEYOND : Check.SIZE);
                Check.due(call + "one too great", x.table(layer, distance, 0, greatest + 1),
                    distance == 0 ? Check.BEYOND : Check.SIZE);
                Check.due(call + "least", x.table(layer, distance, 0, least), first);
                Check.due(call + "greatest", x.table(layer, distance, 0, greatest), least);
                Check.due(call + "as first", x.table(layer, distance, 0, first), greatest);
            }
            for (int age = 1; age < 12; age++) {
                tableOfAge(layer, age);
            }
        }
    }

    private static void tableOfAge(int layer, int age) {
        WellField x = new WellField();
        String call = "table(" + layer + ", d, " + age + ", v): ";
        for (int distance = 1; distance < 10; distance++) {
            Check.due(call + "above that of one less", x.table(layer, distance, age, 1), Check.SIZE);
        }
        for (int distance = 0; distance < 10; distance++) {
            Check.due(call + "the greatest", x.table(layer, distance, age, 1000), 0);
            Check.due(call + "the greatest again", x.table(layer, distance, age, 1000), 1000);
        }
        for (int distance = 0; distance < 9; distance++) {
            Check.due(call + "below that of one more", x.table(layer, distance, age, 999), Check.SIZE);
        }
        for (int distance = 9; distance >= 0; distance--) {
            Check.due(call + "the least", x.table(layer, distance, age, 0), 1000);
        }
    }

    private static void rainTable() {
        WellField x = new WellField();
        for (int age = 0; age < 12; age++) {
            Check.due("rainTable: at first", x.rainTable(age, 1000), age == 0 ? 10 : 0);
            Check.due("rainTable: above", x.rainTable(age, 1001), Check.BEYOND);
            Check.due("rainTable: the greatest", x.rainTable(age, 0), 1000);
            Check.due("rainTable: below", x.rainTable(age, -1), Check.BEYOND);
            Check.due("rainTable: the least", x.rainTable(age, age), 0);
        }
        for (int age = 0; age < 12; age++) {
            Check.due("rainTable: each age has its own", x.rainTable(age, 0), age);
        }
    }

    private static void sheetsOfAllSizes() {
        for (int kind = 1; kind < 3; kind++) {
            for (int n = 0; n <= 24; n++) {
                WellField x = new WellField();
                x.well(0, 0, 0, 0);
                for (int month = 0; month < 24; month++) {
                    x.draw(0, month, 1);
                }
                Check.due("sheet: n", x.sheet(3, kind, n), n);
                Check.due("sheet: it has the last of " + n, x.put(3, n - 1, 0), n == 0 ? Check.BEYOND : 0);
                Check.due("sheet: but no more than " + n, x.put(3, n, 0), Check.BEYOND);
                Check.due("sheet: all told", x.draws(0, 0, 3), n);
                Check.due("sheet: all are 0", x.of(0, 5), 24 - n);
                Check.due("sheet: the others are MISSING", x.put(2, 0, 0), Check.MISSING);
            }
        }
    }

    /** What a sheet had before is gone, whether it grows, changes its kind, or was MISSING between. */
    private static void sheetAnew() {
        int[][] ways = {{1, 3}, {1, 1, 1, 3}, {2, 3}, {0, 0, 1, 3}, {1, 0, 1, 3}, {1, 1, 0, 9, 2, 3}};
        for (int[] way : ways) {
            WellField x = new WellField();
            x.well(0, 0, 0, 0);
            x.sheet(0, 1, 3);
            for (int i = 0; i < 3; i++) {
                x.put(0, i, 100 + i);
            }
            for (int i = 0; i < way.length; i += 2) {
                x.sheet(0, way[i], way[i + 1]);
            }
            Check.due("sheet: anew, its numbers", x.draws(0, 0, 0), 3);
            Check.due("sheet: anew, all are 0", x.of(0, 5), 0);
        }
        WellField x = new WellField();
        x.sheet(1, 1, 24);
        Check.due("sheet: kind 0", x.sheet(1, 0, 0), 0);
        Check.due("sheet: kind 0 again", x.sheet(1, 0, 24), 0);
        Check.due("sheet: it is MISSING", x.put(1, 0, 0), Check.MISSING);
    }

    private static void putAtTheEdges() {
        WellField x = new WellField();
        x.well(0, 0, 0, 0);
        for (int kind = 1; kind < 3; kind++) {
            x.sheet(0, kind, 24);
            for (int v : new int[] {Integer.MIN_VALUE, -1, 0, 1, Integer.MAX_VALUE}) {
                Check.due("put: any v, first", x.put(0, 0, v), 0);
                Check.due("put: any v, last", x.put(0, 23, v), 0);
            }
            Check.due("put: number 24", x.put(0, 24, 0), Check.BEYOND);
            Check.due("put: number -1", x.put(0, -1, 0), Check.BEYOND);
            Check.due("put: number greatest", x.put(0, Integer.MAX_VALUE, 0), Check.BEYOND);
            Check.due("put: number least", x.put(0, Integer.MIN_VALUE, 0), Check.BEYOND);
            int due = kind == 1 ? Check.BEYOND : Check.NO_NUMBER;
            Check.due("put: the greatest int as a number", x.draws(0, 0, 0), due);
        }
        x.sheet(0, 1, 0);
        Check.due("put: into none", x.put(0, 0, 0), Check.BEYOND);
        x.sheet(0, 1, 1);
        Check.due("put: into one", x.put(0, 0, 5), 0);
        x.draws(0, 23, 0);
        Check.due("put: the one", x.draw(0, 23, 0), 5);
        Check.due("put: into one, the second", x.put(0, 1, 0), Check.BEYOND);
    }

    private static void copyAtTheEdges() {
        for (int kind = 1; kind < 3; kind++) {
            WellField x = new WellField();
            x.well(0, 0, 0, 0);
            x.sheet(0, kind, 24);
            x.sheet(1, kind, 24);
            x.sheet(2, kind, 0);
            for (int i = 0; i < 24; i++) {
                x.put(0, i, kind == 1 ? i + 1 : Float.floatToIntBits(i + 1.5f));
            }
            Check.due("copy: none of none", x.copy(2, 0, 2, 0, 0), 0);
            Check.due("copy: one of none", x.copy(2, 0, 1, 0, 1), Check.BEYOND);
            Check.due("copy: one to none", x.copy(0, 0, 2, 0, 1), Check.BEYOND);
            Check.due("copy: none at both ends", x.copy(0, 24, 1, 24, 0), 0);
            Check.due("copy: none behind the end", x.copy(0, 25, 1, 0, 0), Check.BEYOND);
            Check.due("copy: none to behind the end", x.copy(0, 0, 1, 25, 0), Check.BEYOND);
            Check.due("copy: one at the end", x.copy(0, 24, 1, 0, 1), Check.BEYOND);
            Check.due("copy: the last to the first", x.copy(0, 23, 1, 0, 1), 1);
            Check.due("copy: the first to the last", x.copy(0, 0, 1, 23, 1), 1);
            Check.due("copy: one more than all", x.copy(0, 0, 1, 0, 25), Check.BEYOND);
            x.draws(0, 0, 1);
            Check.due("copy: both came", x.draw(0, 0, 0) * 100 + x.draw(0, 23, 0), 2401);
            Check.due("copy: all but these are 0", x.of(0, 5), 0);
            Check.due("copy: all", x.copy(0, 0, 1, 0, 24), 24);
            x.draws(0, 0, 1);
            Check.due("copy: all came", x.of(0, 5), 300);
            Check.due("copy: all to itself", x.copy(1, 0, 1, 0, 24), 24);
            Check.due("copy: over itself, up", x.copy(1, 0, 1, 1, 23), 23);
            x.draws(0, 0, 1);
            Check.due("copy: over itself, sum", x.of(0, 5), 1 + 276);
        }
    }

    /** "till the sheet ends, or month 23 is told: how many" */
    private static void drawsTillMonth23() {
        for (int month = 0; month < 24; month++) {
            for (int n : new int[] {0, 1, 23 - month, 24 - month, 25 - month, 24}) {
                if (n < 0 || n > 24) {
                    continue;
                }
                WellField x = new WellField();
                x.well(3, 0, 0, 0);
                x.sheet(2, 1, n);
                for (int i = 0; i < n; i++) {
                    x.put(2, i, i < 24 - month ? i + 1 : -1);
                }
                int told = Math.min(n, 24 - month);
                String call = "draws: " + n + " from month " + month;
                Check.due(call, x.draws(0, month, 2), told);
                Check.due(call + ", all of them", x.of(0, 5), told * (told + 1) / 2);
                if (told > 0) {
                    Check.due(call + ", the first", x.draw(0, month, 0), 1);
                    Check.due(call + ", the last", x.draw(0, month + told - 1, 0), told == 1 ? 0 : told);
                }
            }
        }
    }

    /** "floats: cut towards 0", "BEYOND: one (cut) is not 0 to 1000" */
    private static void drawsOfEdgeNumbers() {
        int[][] wholes = {{0, 0}, {1, 1}, {999, 999}, {1000, 1000}, {1001, Check.BEYOND}, {-1, Check.BEYOND},
            {Integer.MAX_VALUE, Check.BEYOND}, {Integer.MIN_VALUE, Check.BEYOND}};
        for (int[] whole : wholes) {
            Check.due("draws: the number " + whole[0], drawnBy(1, whole[0]), whole[1]);
        }
        float lastTaken = Math.nextDown(1001f);
        float lastAbove = Math.nextUp(-1f);
        float[] taken = {0f, -0f, lastAbove, Math.nextDown(1f), 1f, Math.nextDown(1000f), 1000f, lastTaken};
        for (float v : taken) {
            Check.due("draws: the float " + v, drawnBy(2, Float.floatToIntBits(v)), (int) v);
        }
        float[] not = {-1f, 1001f, Math.nextUp(1001f), -2f, 65536f, 16777216f, -16777216f, 2147483648f,
            -2147483648f, Float.MAX_VALUE, -Float.MAX_VALUE, Float.POSITIVE_INFINITY, Float.NEGATIVE_INFINITY};
        for (float v : not) {
            Check.due("draws: the float " + v, drawnBy(2, Float.floatToIntBits(v)), Check.BEYOND);
        }
        for (int bits : new int[] {0x7f800001, 0x7fffffff, 0xff800001, -1}) {
            Check.due("draws: no number, bits " + bits, drawnBy(2, bits), Check.NO_NUMBER);
            Check.due("draws: these bits as a number", drawnBy(1, bits), Check.BEYOND);
        }
    }

    private static int drawnBy(int kind, int v) {
        WellField x = new WellField();
        x.well(0, 0, 0, 0);
        x.sheet(0, kind, 1);
        x.put(0, 0, v);
        int answer = x.draws(0, 0, 0);
        return answer == 1 ? x.draw(0, 0, 0) : answer;
    }

    private static void drawAndRain() {
        WellField x = new WellField();
        x.well(4, 0, 0, 0);
        for (int month = 0; month < 24; month++) {
            Check.due("draw: at first", x.draw(0, month, 1000), 0);
            Check.due("draw: above", x.draw(0, month, 1001), Check.BEYOND);
            Check.due("draw: below", x.draw(0, month, -1), Check.BEYOND);
            Check.due("draw: the greatest", x.draw(0, month, 0), 1000);
            Check.due("draw: the least", x.draw(0, month, month), 0);
            Check.due("rain: at first", x.rain(month, 1000), 0);
            Check.due("rain: above", x.rain(month, 1001), Check.BEYOND);
            Check.due("rain: below", x.rain(month, -1), Check.BEYOND);
            Check.due("rain: the greatest", x.rain(month, 0), 1000);
            Check.due("rain: the least", x.rain(month, 24 - month), 0);
        }
        for (int month = 0; month < 24; month++) {
            Check.due("draw: each month has its own", x.draw(0, month, 0), month);
            Check.due("rain: each month has its own", x.rain(month, 0), 24 - month);
        }
    }

    /** "of a PAIRED one in even months alone if its number is even, in odd ones alone if that is odd" */
    private static void countsOfPaired() {
        WellField x = new WellField();
        for (int well = 0; well < 10; well++) {
            x.well(2, 0, 0, 0);
            for (int month : new int[] {0, 1, 22, 23}) {
                x.draw(well, month, 1000);
                boolean own = well % 2 == month % 2;
                Check.due("counts(" + well + ", " + month + ")", x.counts(well, month), own ? 1000 : 0);
                Check.due("by(" + well + ", " + month + ")", x.by(well, month, well), own ? 100000 : 0);
            }
            Check.due("of: as told, not as they count", x.of(well, 5), 4000);
        }
        WellField y = Check.ofAllKinds();
        for (int well = 0; well < 6; well++) {
            Check.due("counts: none drawn, kind " + well, y.counts(well, 0), 0);
        }
        y.draw(3, 0, 1000);
        y.draw(4, 0, 1000);
        Check.due("counts: FILLING, the most", y.counts(3, 0), -1000);
        Check.due("counts: GUARD, the most", y.counts(4, 0), -1000);
    }

    private static void dryOfNoneAndAll() {
        WellField x = new WellField();
        Check.due("dry: none", x.dry(), 0);
        x.rain(23, 1);
        Check.due("dry: one", x.dry(), 1);
        x.sheet(0, 1, 24);
        for (int i = 0; i < 24; i++) {
            x.put(0, i, 1 + i);
            x.rain(i, 1000);
        }
        for (int well = 0; well < 10; well++) {
            x.well(well % 5, 0, 0, 0);
            x.draws(well, 0, 0);
        }
        Check.due("dry: all there may be", x.dry(), 264);
        Check.due("dry: again", x.dry(), 0);
        for (int well = 0; well < 10; well++) {
            Check.due("dry: no draws", x.of(well, 5), 0);
        }
        for (int month = 0; month < 24; month++) {
            Check.due("dry: no rain", x.rain(month, 0), 0);
        }
        Check.due("dry: the sheet stays", x.draws(0, 0, 0), 24);
        Check.due("dry: its numbers stay", x.of(0, 5), 300);
    }

    /** "0 when n is less than m, or n - m is more than 11" */
    private static void headOfTheLastAge() {
        WellField x = new WellField();
        x.well(0, 0, 0, 0);
        for (int age = 0; age < 12; age++) {
            x.table(0, 0, age, 100 + age);
            x.rainTable(age, 7 + age);
        }
        for (int drawn : new int[] {0, 11, 12, 23}) {
            x.dry();
            x.draw(0, drawn, 1);
            x.rain(drawn, 1);
            for (int month = 0; month < 24; month++) {
                int age = month - drawn;
                boolean counts = age >= 0 && age <= 11;
                Check.due("by: of " + drawn + " in " + month, x.by(0, month, 0), counts ? 100 + age : 0);
                Check.due("rained: of " + drawn + " in " + month, x.rained(0, month), counts ? 7 + age : 0);
                Check.due("head: of " + drawn + " in " + month, x.head(0, month), counts ? -93 : 0);
            }
        }
    }

    private static WellField greatestTables() {
        WellField x = new WellField();
        for (int age = 0; age < 12; age++) {
            x.table(0, 0, age, 1000);
            x.table(1, 0, age, 1000);
            x.rainTable(age, 1000);
        }
        x.sheet(0, 1, 24);
        for (int i = 0; i < 24; i++) {
            x.put(0, i, 1000);
        }
        return x;
    }

    /** A head is told exactly, and no answer that is none of the findings is below -999999999. */
    private static void headsAtTheirBounds() {
        WellField x = greatestTables();
        WellField y = greatestTables();
        for (int well = 0; well < 10; well++) {
            x.well(well % 2, 0, 0, -100000);
            x.limit(well, 100000);
            x.draws(well, 0, 0);
            y.well(3 + well % 2, 0, 0, 100000);
            y.draws(well, 0, 0);
        }
        for (int month = 0; month < 24; month++) {
            y.rain(month, 1000);
        }
        for (int month = 0; month < 24; month++) {
            int months = Math.min(month + 1, 12);
            Check.due("head: the lowest in " + month, x.head(9, month), -100000 - 10000000 * months);
            Check.due("head: the highest in " + month, y.head(9, month), 100000 + 11000000 * months);
        }
        Check.due("near: the least", x.near(0, 23), -120200000);
        Check.due("near: the greatest", y.near(0, 23), 132200000);
        x.read(0, 23, 100000000);
        y.read(0, 23, -100000000);
        Check.due("differ: the greatest", x.differ(0, 23), 220100000);
        Check.due("differ: the least", y.differ(0, 23), -232100000);
        Check.due("squares: of the least", y.squares(), 232100000L * 232100000L);
        for (int i = 0; i < 40; i++) {
            y.read(i % 10, 20 + i / 10, -100000000);
        }
        Check.due("squares: of 40", y.squares(), 40 * 232100000L * 232100000L);
    }

    private static void byAtItsBounds() {
        WellField x = greatestTables();
        for (int kind = 0; kind < 6; kind++) {
            x.well(kind, 0, 0, 0);
            x.draws(kind, 0, 0);
        }
        int[] due = {12000000, 12000000, 6000000, -12000000, -12000000, 0};
        for (int of = 0; of < 6; of++) {
            Check.due("by: the most of kind " + of, x.by(5, 23, of), due[of]);
            Check.due("by: at a DEEP one", x.by(1, 23, of), due[of]);
            Check.due("by: month 0", x.by(5, 0, of), of == 2 ? 1000000 : due[of] / 12);
            Check.due("without: all", x.without(5, 23, of, 0), due[of]);
        }
        WellField y = Check.ofAllKinds();
        for (int of = 0; of < 6; of++) {
            Check.due("by: nothing drawn", y.by(0, 23, of), 0);
        }
    }

    private static void rainedAtItsBounds() {
        WellField x = greatestTables();
        x.well(0, 0, 0, -5);
        Check.due("rained: none", x.rained(0, 23), 0);
        x.rain(0, 1);
        Check.due("rained: one", x.rained(0, 0), 1000);
        for (int month = 0; month < 24; month++) {
            x.rain(month, 1000);
        }
        Check.due("rained: the most in month 0", x.rained(0, 0), 1000000);
        Check.due("rained: the most", x.rained(0, 23), 12000000);
        Check.due("rained: month 11 has all twelve", x.rained(0, 11), 12000000);
        Check.due("rained: month 10 has eleven", x.rained(0, 10), 11000000);
    }

    /** "of several the lowest", "NONE: none is above 0" */
    private static void mostOfTen() {
        WellField x = new WellField();
        for (int well = 0; well < 10; well++) {
            x.well(well == 0 ? 5 : 0, 0, 0, 0);
        }
        Check.due("most: all are 0", x.most(9, 23), Check.NONE);
        for (int well = 9; well >= 1; well--) {
            x.draw(well, 23, 1);
            Check.due("most: of several the lowest", x.most(0, 23), well);
        }
        x.draw(9, 23, 2);
        Check.due("most: the last of ten", x.most(0, 23), 9);
        Check.due("most: a month ahead", x.most(0, 22), Check.NONE);
        WellField y = Check.ofAllKinds();
        y.draw(3, 0, 1000);
        y.draw(4, 0, 1000);
        Check.due("most: those below 0 are none", y.most(0, 0), Check.NONE);
        y.draw(2, 1, 1000);
        Check.due("most: one that does not count is none", y.most(0, 1), Check.NONE);
    }

    /** "It is LOW in a month when its HEAD is below its LIMIT." */
    private static void lowByOne() {
        WellField x = new WellField();
        x.well(5, 0, 0, 77);
        for (int month = 0; month < 24; month += 23) {
            x.limit(0, 76);
            Check.due("when: 1 above", x.when(0, month), Check.NONE);
            Check.due("near: 1 above", x.near(0, month), 1);
            Check.due("low: 1 above", x.low(month), 0);
            x.limit(0, 77);
            Check.due("when: as the LIMIT", x.when(0, month), Check.NONE);
            Check.due("near: as the LIMIT", x.near(0, month), 0);
            Check.due("low: as the LIMIT", x.low(month), 0);
            x.limit(0, 78);
            Check.due("when: 1 below", x.when(0, month), month);
            Check.due("near: 1 below", x.near(0, month), -1);
            Check.due("low: 1 below", x.low(month), 1);
        }
    }

    private static void nearTheLastMonth() {
        WellField x = new WellField();
        x.well(0, 0, 0, 0);
        x.limit(0, -500);
        x.draw(0, 0, 6);
        x.draw(0, 23, 5);
        Check.due("when: month 0 from 0 on", x.when(0, 0), 0);
        Check.due("when: month 0 is behind", x.when(0, 1), Check.NONE);
        Check.due("near: month 0", x.near(0, 0), -100);
        Check.due("near: month 23, seen from 1", x.near(0, 1), 0);
        Check.due("near: month 23 alone", x.near(0, 23), 0);
        x.draw(0, 23, 7);
        Check.due("when: month 23, seen from 1", x.when(0, 1), 23);
        Check.due("when: month 23 alone", x.when(0, 23), 23);
        Check.due("near: the last is the least", x.near(0, 0), -200);
    }

    private static void lowOfTen() {
        WellField x = new WellField();
        Check.due("low: no wells", x.low(0), 0);
        for (int well = 0; well < 10; well++) {
            x.well(well % 6, well, well, well);
            x.limit(well, well + 1);
            Check.due("low: " + (well + 1), x.low(well), well + 1);
            Check.due("low: in month 23", x.low(23), well + 1);
        }
        x.rainTable(0, 1);
        x.rain(23, 1);
        Check.due("low: none any more", x.low(23), 0);
        Check.due("low: a month ahead, all", x.low(22), 10);
    }

    private static void withoutFromTheEdges() {
        WellField x = Check.ofAllKinds();
        for (int age = 1; age < 12; age++) {
            x.table(0, 0, age, 1);
        }
        for (int month = 0; month < 24; month++) {
            x.draw(0, month, 1);
            x.draw(4, month, 1);
        }
        Check.due("without: from 0", x.without(5, 23, 0, 0), 111);
        Check.due("without: from the oldest that counts", x.without(5, 23, 0, 12), 111);
        Check.due("without: from one behind it", x.without(5, 23, 0, 13), 110);
        Check.due("without: from that month", x.without(5, 23, 0, 23), 100);
        Check.due("without: from a month behind", x.without(5, 22, 0, 23), 0);
        Check.due("without: month 0", x.without(5, 0, 0, 0), 100);
        Check.due("without: month 0, from 1", x.without(5, 0, 0, 1), 0);
        Check.due("without: itself", x.without(0, 23, 0, 0), 111);
        Check.due("without: a GUARD", x.without(5, 23, 4, 0), -111);
        Check.due("without: one that draws nothing", x.without(5, 23, 1, 0), 0);
        Check.due("without: a POST", x.without(0, 23, 5, 0), 0);
        Check.due("without: nothing changed", x.of(0, 5) + x.of(4, 5), 48);
    }
}
