/**
 * The document's boundary cases, sentence by sentence, for promises 25 to 37: what may be drawn, what was read, and
 * the whole. Promises 1 to 24 are in EdgesTest.
 */
final class EdgesOfServingTest {
    public static void main(String[] args) {
        freeAtMost1000();
        freeTillTheLimit();
        freeOfLowByOne();
        freeFromAMonthOn();
        freeOfTen();
        tenLicences();
        serveNoneAndAll();
        serveByYearAndNumber();
        serveNotAbove1000();
        serveFromTheEdges();
        servePairedAtTheEnd();
        servedAtTheEdges();
        holdFrom0To1000();
        moveFrom0To1000();
        moveOfTen();
        fortyReadings();
        fitFrom50To150();
        fitOfSeveral();
        fitAtTheBoundsOfTables();
        squaresOfNoneAndOne();
        keepNoneOfWells();
        keepAllOfWells();
        keepAllOfLicences();
        backWithoutAnEnd();
        toldOfAll();
        Check.finish();
    }

    /** "the greatest whole number q, at most 1000" */
    private static void freeAtMost1000() {
        int[][] rests = {{-101, 998}, {-100, 999}, {-1, 999}, {0, 1000}, {99, 1000}, {100, 1000}, {100000, 1000},
            {-99900, 1}, {-99901, 0}, {-100000, 0}};
        for (int[] rest : rests) {
            WellField x = new WellField();
            x.well(0, 0, 0, rest[0]);
            Check.due("free: REST " + rest[0], x.free(0, 23), rest[1]);
            Check.due("free: REST " + rest[0] + ", from 0", x.free(0, 0), rest[1]);
        }
    }

    /** The last that leaves no well LOW, and the first that does not: by drawing so it is seen. */
    private static void freeTillTheLimit() {
        for (int rest = 1200; rest < 1205; rest++) {
            WellField x = new WellField();
            x.well(1, 0, 0, rest);
            x.well(5, 0, 0, rest / 2);
            x.limit(0, 0);
            x.limit(1, 0);
            x.table(0, 0, 0, 101);
            x.table(1, 0, 0, 51);
            int free = x.free(0, 23);
            Check.due("free: REST " + rest, free, Math.min(rest / 101, rest / 2 / 51));
            x.draw(0, 23, free);
            Check.due("free: drawn, none is LOW", x.low(23), 0);
            Check.due("free: drawn, none is left", x.free(0, 23), 0);
            x.draw(0, 23, free + 1);
            Check.due("free: one more, and one is LOW", x.low(23) > 0 ? 1 : 0, 1);
        }
    }

    /** "none that is LOW without it gets a lower HEAD" */
    private static void freeOfLowByOne() {
        WellField x = new WellField();
        x.well(0, 0, 0, 0);
        x.well(5, 30, 30, 0);
        for (int distance = 9; distance > 0; distance--) {
            x.table(0, distance, 0, 1);
        }
        int[][] limits = {{-2, 2}, {-1, 1}, {0, 0}, {1, 0}, {2, 0}, {100000, 0}};
        for (int[] limit : limits) {
            x.limit(1, limit[0]);
            Check.due("free: by ones, LIMIT " + limit[0], x.free(0, 0), limit[1]);
        }
        x.table(0, 9, 0, 0);
        Check.due("free: LOW, but it gets no lower", x.free(0, 0), 1000);
        x.limit(0, 1);
        Check.due("free: LOW itself", x.free(0, 0), 0);
        x.table(0, 0, 0, 1);
        Check.due("free: LOW itself, by ones", x.free(0, 0), 0);
        x.limit(0, 0);
        Check.due("free: as the LIMIT, by ones", x.free(0, 0), 0);
        x.limit(0, -1);
        Check.due("free: 1 above the LIMIT, by ones", x.free(0, 0), 1);
    }

    /** "from a month to month 23": what is LOW ahead of it is not asked. */
    private static void freeFromAMonthOn() {
        WellField x = new WellField();
        x.well(0, 0, 0, 1000);
        x.limit(0, 0);
        x.draw(0, 10, 11);
        x.draw(0, 11, 4);
        Check.due("free: LOW in that month", x.free(0, 10), 0);
        Check.due("free: LOW in one ahead", x.free(0, 11), 6);
        Check.due("free: behind both", x.free(0, 12), 10);
        Check.due("free: LOW in one behind", x.free(0, 0), 0);
        x.draw(0, 23, 9);
        Check.due("free: month 23 is asked", x.free(0, 12), 1);
        x.dry();
        x.table(0, 0, 11, 100);
        Check.due("free: from 12 on two of AGE 0 and 11 meet in 23", x.free(0, 12), 5);
        Check.due("free: from 13 on none meet", x.free(0, 13), 10);
    }

    private static void freeOfTen() {
        WellField x = new WellField();
        for (int well = 0; well < 10; well++) {
            x.well(well < 9 ? well % 3 : 5, 0, 0, 1000);
        }
        x.limit(9, 300);
        x.limit(0, 400);
        int[] due = {6, 12, 6};
        for (int well = 0; well < 9; well++) {
            Check.due("free: well " + well + " of ten", x.free(well, 0), due[well % 3]);
        }
        Check.due("free: no eleventh", x.free(10, 0), Check.BEYOND);
        x.limit(9, 500);
        Check.due("free: the last of ten is the tightest", x.free(0, 0), 5);
        Check.due("free: and in month 23", x.free(3, 23), 5);
    }

    private static void tenLicences() {
        WellField x = new WellField();
        x.well(0, 0, 0, 0);
        Check.due("licence: none", x.told(1), 0);
        x.keep();
        for (int i = 0; i < 10; i++) {
            Check.due("licence: number " + i, x.licence(0, i % 2 == 0 ? 0 : 9999, i % 3 == 0 ? 1000 : 0), i);
            Check.due("licence: how many", x.told(1), i + 1);
        }
        for (int i = 0; i < 2; i++) {
            Check.due("licence: one more", x.licence(0, 0, 0), Check.FULL);
        }
        x.serve(0);
        Check.due("licence: the last stands", x.served(9, true) + x.served(9, false), 1000);
        x.back();
        Check.due("licence: there is room again", x.licence(0, 9999, 1000), 0);
    }

    private static void serveNoneAndAll() {
        WellField x = new WellField();
        Check.due("serve: no wells", x.serve(23), 0);
        for (int well = 0; well < 10; well++) {
            x.well(0, 3 * well, 0, 0);
            x.draw(well, 23, 2);
        }
        Check.due("serve: no licences", x.serve(0), 0);
        Check.due("serve: draws stay", x.of(9, 5), 2);
        for (int well = 0; well < 10; well++) {
            x.licence(well, 10 - well, well);
        }
        Check.due("serve: ten", x.serve(0), 45);
        for (int well = 0; well < 10; well++) {
            Check.due("serve: licence " + well, x.served(well, false), well);
            Check.due("serve: month 0", x.counts(well, 0), well);
            Check.due("serve: month 23", x.counts(well, 23), well);
            Check.due("serve: all", x.of(well, 5), 24 * well);
        }
    }

    /** "the least first (of several by their number)" */
    private static void serveByYearAndNumber() {
        int[][] years = {{0, 1, 2}, {2, 1, 0}, {1, 1, 1}, {9999, 9998, 9999}, {0, 9999, 0}};
        int[][] due = {{8, 2, 0}, {0, 2, 8}, {8, 2, 0}, {2, 8, 0}, {8, 0, 2}};
        for (int i = 0; i < years.length; i++) {
            WellField x = new WellField();
            x.well(0, 0, 0, 1000);
            x.limit(0, 0);
            for (int licence = 0; licence < 3; licence++) {
                x.licence(0, years[i][licence], 8);
            }
            Check.due("serve: by age, all", x.serve(0), 10);
            for (int licence = 0; licence < 3; licence++) {
                Check.due("serve: way " + i + ", licence " + licence, x.served(licence, false), due[i][licence]);
                Check.due("serve: lacks", x.served(licence, true), 8 - due[i][licence]);
            }
        }
    }

    /** "but not above 1000 in all" */
    private static void serveNotAbove1000() {
        int[][] amounts = {{1000, 1}, {999, 1}, {999, 2}, {1, 1000}, {0, 1000}, {1000, 1000}};
        int[][] due = {{1000, 0}, {999, 1}, {999, 1}, {1, 999}, {0, 1000}, {1000, 0}};
        for (int i = 0; i < amounts.length; i++) {
            WellField x = new WellField();
            x.well(2, 0, 0, 0);
            for (int distance = 9; distance >= 0; distance--) {
                x.table(0, distance, 0, 0);
            }
            x.licence(0, 0, amounts[i][0]);
            x.licence(0, 0, amounts[i][1]);
            String call = "serve: " + amounts[i][0] + " and " + amounts[i][1];
            Check.due(call, x.serve(0), due[i][0] + due[i][1]);
            Check.due(call + ", the first", x.served(0, false), due[i][0]);
            Check.due(call + ", the second", x.served(1, false), due[i][1]);
            Check.due(call + ", the second lacks", x.served(1, true), amounts[i][1] - due[i][1]);
            Check.due(call + ", its draw", x.counts(0, 22), due[i][0] + due[i][1]);
        }
    }

    private static void serveFromTheEdges() {
        for (int month : new int[] {0, 1, 22, 23}) {
            WellField x = new WellField();
            x.well(0, 0, 0, 10000);
            for (int m = 0; m < 24; m++) {
                x.draw(0, m, 7);
            }
            x.licence(0, 1, 3);
            Check.due("serve: from " + month, x.serve(month), 3);
            Check.due("serve: from " + month + ", all", x.of(0, 5), 7 * month + 3 * (24 - month));
            Check.due("serve: that month", x.counts(0, month), 3);
            Check.due("serve: month 23", x.counts(0, 23), 3);
            Check.due("serve: the one ahead stays", x.counts(0, Math.max(0, month - 1)), month == 0 ? 3 : 7);
        }
    }

    /** "PAIRED: its own months alone", when month 23 is one, or is none. */
    private static void servePairedAtTheEnd() {
        for (int well = 0; well < 2; well++) {
            WellField x = new WellField();
            x.well(2, 0, 0, 1000);
            x.well(2, 0, 0, 1000);
            x.limit(well, 0);
            x.licence(well, 0, 1000);
            x.draw(well, 22, 3);
            x.draw(well, 23, 4);
            Check.due("serve: from 22 on it has one month", x.serve(22), 10);
            Check.due("serve: month 22", x.draw(well, 22, 3), well == 0 ? 10 : 0);
            Check.due("serve: month 23", x.draw(well, 23, 4), well == 1 ? 10 : 0);
            Check.due("free: from 23 on", x.free(well, 23), well == 1 ? 6 : 1000);
            x.serve(23);
            Check.due("serve: month 22 stays", x.draw(well, 22, 0), 3);
            Check.due("serve: month 23 alone", x.draw(well, 23, 0), well == 1 ? 10 : 0);
        }
    }

    /** "NONE: it came behind that, or there was none." */
    private static void servedAtTheEdges() {
        WellField x = new WellField();
        x.well(0, 0, 0, 0);
        x.limit(0, 0);
        x.serve(0);
        x.licence(0, 0, 1000);
        Check.due("served: it came behind one without licences", x.served(0, false), Check.NONE);
        x.serve(0);
        Check.due("served: nothing is not NONE", x.served(0, false), 0);
        Check.due("served: lacks all", x.served(0, true), 1000);
        x.licence(0, 0, 0);
        Check.due("served: it came behind the latest", x.served(1, true), Check.NONE);
        Check.due("served: the other did not", x.served(0, true), 1000);
        x.limit(0, -100000);
        x.serve(23);
        Check.due("served: by the latest, all", x.served(0, false), 1000);
        Check.due("served: by the latest, lacks nothing", x.served(0, true), 0);
        Check.due("served: amount 0", x.served(1, false), 0);
        Check.due("served: amount 0, lacks", x.served(1, true), 0);
        x.draw(0, 23, 5);
        Check.due("served: a draw changes it not", x.served(0, false), 1000);
    }

    /** "The least number ... so that its own HEAD in that month is not below a told one", "even 1000 is too little" */
    private static void holdFrom0To1000() {
        int[][] heads = {{-100000, 0}, {-1, 0}, {0, 0}, {1, 1}, {99, 1}, {100, 1}, {101, 2}, {99900, 999},
            {99901, 1000}, {100000, 1000}, {100001, Check.BEYOND}, {-100001, Check.BEYOND}};
        for (int month : new int[] {0, 23}) {
            for (int[] head : heads) {
                WellField x = new WellField();
                x.well(4, 0, 0, 0);
                x.draw(0, month, 444);
                Check.due("hold: head " + head[0], x.hold(0, month, head[0]), head[1]);
                Check.due("hold: it is drawn", x.draw(0, month, 0), head[1] < 0 ? 444 : head[1]);
            }
        }
        WellField x = new WellField();
        x.well(4, 0, 0, -1);
        Check.due("hold: 1000 is enough", x.hold(0, 0, 99999), 1000);
        Check.due("hold: the head then", x.head(0, 0), 99999);
        Check.due("hold: 1000 is too little by 1", x.hold(0, 0, 100000), Check.NONE);
        Check.due("hold: nothing changes", x.of(0, 5), 1000);
        x.rainTable(0, 1);
        x.rain(0, 1);
        Check.due("hold: rain makes it enough", x.hold(0, 0, 100000), 1000);
        WellField far = new WellField();
        far.well(4, 0, 0, 0);
        for (int distance = 9; distance >= 0; distance--) {
            far.table(0, distance, 0, 0);
        }
        Check.due("hold: what raises nothing is enough for what is", far.hold(0, 0, 0), 0);
        Check.due("hold: and for no more", far.hold(0, 0, 1), Check.NONE);
    }

    /** "The greatest q, 0 to 1000": the last that makes no HEAD lower, and the first that does. */
    private static void moveFrom0To1000() {
        int[][] draws = {{0, 0, 0}, {0, 1, 0}, {0, 2, 1}, {500, 0, 500}, {500, 555, 999}, {500, 556, 1000},
            {500, 557, 1000}, {1000, 0, 1000}, {1000, 1000, 1000}, {0, 1000, 900}};
        for (int[] draw : draws) {
            WellField x = new WellField();
            x.well(0, 0, 0, 0);
            x.well(0, 1, 0, 0);
            x.draw(0, 23, draw[0]);
            x.draw(1, 23, draw[1]);
            int was = x.head(0, 23);
            String call = "move: " + draw[1] + " to " + draw[0];
            Check.due(call, x.move(0, 23, 1), draw[2]);
            Check.due(call + ", the other", x.draw(1, 23, 0), 0);
            Check.due(call + ", no head is lower", x.head(0, 23) >= was ? 1 : 0, 1);
            Check.due(call + ", it is drawn", x.draw(0, 23, draw[2]), draw[2]);
            if (draw[2] < 1000) {
                x.draw(0, 23, draw[2] + 1);
                Check.due(call + ", one more makes one lower", x.head(0, 23) < was ? 1 : 0, 1);
            }
        }
    }

    /** "of any well": the first or the last of ten is the one that would be lower. */
    private static void moveOfTen() {
        for (int post = 0; post < 10; post += 9) {
            WellField x = new WellField();
            for (int well = 0; well < 10; well++) {
                x.well(well == post ? 5 : 0, well == 4 ? 4 : well == post ? 0 : 8, 0, 0);
            }
            x.draw(3, 0, 30);
            Check.due("move: the post " + post + " is nearer", x.move(4, 0, 3), 30 * 20 / 60);
        }
    }

    /** "(an older one there goes)", "FULL: there are 40 others." */
    private static void fortyReadings() {
        WellField x = new WellField();
        x.well(0, 0, 0, 0);
        x.well(5, 0, 0, 0);
        x.keep();
        Check.due("read: none", x.told(2), 0);
        for (int i = 0; i < 40; i++) {
            Check.due("read: one more", x.read(i % 2, i / 2, i), i + 1);
            Check.due("read: the same again", x.read(i % 2, i / 2, i + 1), i + 1);
        }
        Check.due("read: 40 others", x.read(0, 23, 5), Check.FULL);
        Check.due("read: 40 others, of the other", x.read(1, 20, 5), Check.FULL);
        Check.due("read: 39 others and an older one", x.read(0, 0, -100000000), 40);
        Check.due("read: the least", x.differ(0, 0), -100000000);
        Check.due("read: 39 others and the last", x.read(1, 19, 100000000), 40);
        Check.due("read: the greatest", x.differ(1, 19), 100000000);
        Check.due("read: not there", x.differ(0, 23), Check.NONE);
        Check.due("read: all", x.told(2), 40);
        Check.due("read: back to none", x.back(), 2);
        Check.due("read: there is room again", x.read(0, 23, 5), 1);
        Check.due("read: the others are gone", x.differ(0, 0), Check.NONE);
    }

    private static WellField oneReading(int v) {
        WellField x = new WellField();
        x.well(0, 0, 0, 0);
        x.draw(0, 0, 1);
        x.read(0, 0, v);
        return x;
    }

    /** "f from 50 to 150 by steps of 10" */
    private static void fitFrom50To150() {
        int[][] readings = {{100000000, 50}, {0, 50}, {-49, 50}, {-50, 50}, {-54, 50}, {-56, 60}, {-94, 90}, {-96, 100},
            {-100, 100}, {-104, 100}, {-106, 110}, {-144, 140}, {-146, 150}, {-150, 150}, {-151, 150}, {-160, 150},
            {-100000000, 150}};
        for (int[] reading : readings) {
            WellField x = oneReading(reading[0]);
            Check.due("fit: reading " + reading[0], x.fit(0, 0), reading[1]);
            Check.due("fit: the table", x.table(0, 0, 0, 1000), reading[1]);
        }
    }

    /** "of several the least f" */
    private static void fitOfSeveral() {
        for (int f = 50; f < 150; f += 10) {
            Check.due("fit: between " + f + " and the next", oneReading(-f - 5).fit(0, 0), f);
        }
        for (int age = 1; age < 12; age++) {
            for (int layer = 0; layer < 2; layer++) {
                WellField x = oneReading(-100);
                Check.due("fit: of numbers that are 0 all are alike", x.fit(layer, age), 50);
                Check.due("fit: age 0 stays", x.table(0, 0, 0, 100), 100);
            }
        }
    }

    /** "(cut, at most 1000)" */
    private static void fitAtTheBoundsOfTables() {
        int[][] numbers = {{666, 150, 999}, {667, 150, 1000}, {668, 150, 1000}, {715, 140, 1000}, {1000, 100, 1000}};
        for (int[] number : numbers) {
            WellField x = new WellField();
            x.well(0, 0, 0, 0);
            x.table(0, 0, 11, number[0]);
            x.draw(0, 0, 1);
            x.read(0, 11, -100000000);
            Check.due("fit: of " + number[0], x.fit(0, 11), number[1]);
            Check.due("fit: " + number[0] + " becomes", x.table(0, 0, 11, 0), number[2]);
        }
        WellField x = oneReading(-1000);
        x.table(0, 9, 0, 1);
        Check.due("fit: the greatest", x.fit(0, 0), 150);
        Check.due("fit: 1 by 150 is cut to 1", x.table(0, 9, 0, 1), 1);
        x.read(0, 0, 0);
        Check.due("fit: the least", x.fit(0, 0), 50);
        Check.due("fit: 1 by 50 is cut to 0", x.table(0, 9, 0, 0), 0);
    }

    private static void squaresOfNoneAndOne() {
        WellField x = new WellField();
        Check.due("squares: no wells", x.squares(), 0);
        x.well(0, 0, 0, 5);
        Check.due("squares: no readings", x.squares(), 0);
        x.read(0, 0, 5);
        Check.due("squares: one as it is", x.squares(), 0);
        x.read(0, 0, 4);
        Check.due("squares: one below", x.squares(), 1);
        x.read(0, 0, 6);
        Check.due("squares: one above", x.squares(), 1);
        x.read(0, 23, 65536 + 5);
        Check.due("squares: 32 bits are too few", x.squares(), 4294967297L);
        x.read(0, 0, 100000000);
        x.read(0, 23, -100000000);
        Check.due("squares: the greatest of two", x.squares(), 99999995L * 99999995L + 100000005L * 100000005L);
    }

    /** What is told of a well that came in place of one that went. */
    private static void keepNoneOfWells() {
        WellField x = new WellField();
        Check.due("keep: none", x.keep(), 0);
        x.well(4, 5, 6, 7);
        x.limit(0, 8);
        x.draw(0, 3, 9);
        x.read(0, 3, 10);
        Check.due("back: none", x.back(), 0);
        Check.due("well: again number 0", x.well(2, 1, 30, -7), 0);
        int[] due = {2, 1, 30, -7, -100000, 0};
        for (int what = 0; what < 6; what++) {
            Check.due("back: of the new one " + what, x.of(0, what), due[what]);
        }
        Check.due("back: no reading of the new one", x.differ(0, 3), Check.NONE);
    }

    /** All of ten wells is kept, though ten others had their numbers when less was kept. */
    private static void keepAllOfWells() {
        WellField x = new WellField();
        for (int round = 0; round < 2; round++) {
            Check.due("back: none", round == 0 ? x.keep() : x.back(), 0);
            for (int well = 0; well < 10; well++) {
                x.well((well + round) % 6, well + round, 20 - well + round, 100 * round - well);
                x.limit(well, round - well);
            }
        }
        Check.due("keep: ten", x.keep(), 10);
        Check.due("back: ten", x.back(), 10);
        for (int well = 0; well < 10; well++) {
            int[] due = {(well + 1) % 6, well + 1, 21 - well, 100 - well, 1 - well, 0};
            for (int what = 0; what < 6; what++) {
                Check.due("back: of(" + well + ", " + what + ")", x.of(well, what), due[what]);
            }
        }
    }

    /** The wells, years, amounts of licences come back, though others had their numbers. */
    private static void keepAllOfLicences() {
        WellField x = new WellField();
        x.well(0, 0, 0, 1000);
        x.well(0, 0, 0, 1000);
        x.limit(0, 0);
        x.keep();
        x.licence(0, 1, 3);
        x.licence(0, 2, 20);
        x.back();
        x.licence(1, 4, 20);
        x.licence(1, 3, 4);
        Check.due("serve: the latter is older", x.serve(0), 10);
        x.keep();
        x.dry();
        x.back();
        Check.due("back: draws of the licences' well", x.counts(1, 5), 10);
        Check.due("back: the first was served", x.served(0, false), 6);
        Check.due("back: the second was served", x.served(1, false), 4);
        Check.due("back: the amount", x.served(0, true), 14);
        x.limit(0, 500);
        Check.due("serve: anew", x.serve(0), 5);
        Check.due("serve: the older first", x.served(1, false), 4);
        Check.due("serve: then the younger", x.served(0, false), 1);
        Check.due("serve: their well", x.counts(1, 5), 5);
        Check.due("serve: not the other", x.counts(0, 5), 0);
    }

    /** "All is as it was kept (which stays)", as often as it is asked. */
    private static void backWithoutAnEnd() {
        WellField x = new WellField();
        Check.due("back: nothing is kept", x.back(), Check.NONE);
        x.well(0, 0, 0, 1);
        Check.due("back: nothing is kept yet", x.back(), Check.NONE);
        Check.due("keep: one", x.keep(), 1);
        for (int i = 0; i < 5; i++) {
            x.limit(0, i);
            x.draw(0, i, 9);
            x.rain(i, 9);
            x.rainTable(i, 9);
            x.table(0, 0, i, 300);
            x.well(0, 0, 0, 0);
            x.read(0, i, 0);
            x.licence(0, 0, 0);
            Check.due("back: time " + i, x.back(), 1);
            Check.due("back: LIMIT", x.of(0, 4), -100000);
            Check.due("back: nothing was drawn or rained", x.dry(), 0);
            Check.due("back: licences and readings", x.told(1) + x.told(2), 0);
            Check.due("back: table", x.table(0, 0, i, 200), i == 0 ? 100 : 0);
            Check.due("back: rain's table", x.rainTable(i, 5), i == 0 ? 10 : 0);
            x.back();
        }
        Check.due("told: findings go on", x.told(3), 2);
    }

    private static void toldOfAll() {
        for (int what = 0; what < 4; what++) {
            Check.due("told: none, " + what, Fields.EMPTY.make().told(what), 0);
        }
        int[] due = {10, 10, 40, 0};
        for (int what = 0; what < 4; what++) {
            Check.due("told: as many as there may be, " + what, Fields.FULL.make().told(what), due[what]);
        }
        WellField x = new WellField();
        x.keep();
        int n = 0;
        for (int what : new int[] {Integer.MIN_VALUE, -1, 4, Integer.MAX_VALUE}) {
            Check.due("told(" + what + ")", x.told(what), Check.BEYOND);
            n++;
            Check.due("told: this one, too", x.told(3), n);
            x.back();
            Check.due("told: it goes on with back()", x.told(3), n);
        }
    }
}
