/** Promises 35 to 37: keep, back, told. */
final class WholeTest {
    public static void main(String[] args) {
        nothingKept();
        keepAndBack();
        sheetsAreNotKept();
        servedIsKept();
        keepInPlace();
        told();
        everyFindingIsCounted();
        Check.finish();
    }

    private static void nothingKept() {
        WellField x = new WellField();
        x.well(0, 0, 0, 0);
        Check.due("back: nothing is kept", x.back(), Check.NONE);
        Check.due("back: nothing changed", x.told(0), 1);
        WellField y = new WellField();
        Check.due("keep: of no wells", y.keep(), 0);
        y.well(0, 0, 0, 0);
        y.table(0, 0, 0, 500);
        Check.due("back: to no wells", y.back(), 0);
        Check.due("back: no well any more", y.head(0, 0), Check.BEYOND);
        Check.due("back: tables", y.table(0, 0, 0, 100), 100);
    }

    private static WellField full() {
        WellField x = new WellField();
        x.well(0, 1, 2, 300);
        x.well(4, 3, 4, 500);
        x.limit(0, 20);
        x.draw(0, 5, 6);
        x.rain(5, 7);
        x.table(0, 0, 4, 8);
        x.rainTable(3, 9);
        x.licence(0, 1, 10);
        x.read(1, 5, 11);
        return x;
    }

    private static void change(WellField x) {
        x.well(2, 9, 9, 9);
        x.limit(0, 21);
        x.limit(1, 21);
        x.dry();
        x.draw(0, 4, 100);
        x.draw(2, 4, 100);
        x.rain(6, 70);
        x.table(0, 0, 4, 80);
        x.rainTable(3, 90);
        x.licence(2, 1, 10);
        x.read(1, 5, 111);
        x.read(2, 5, 112);
        x.fit(1, 0);
        x.serve(3);
    }

    private static void checkFull(WellField x) {
        Check.due("back: wells", x.told(0), 2);
        Check.due("back: licences", x.told(1), 1);
        Check.due("back: readings", x.told(2), 1);
        Check.due("back: limit 0", x.of(0, 4), 20);
        Check.due("back: limit 1", x.of(1, 4), -100000);
        Check.due("back: draws", x.of(0, 5), 6);
        Check.due("back: the draw", x.counts(0, 5), 6);
        Check.due("back: rain", x.rained(0, 5), 70);
        Check.due("back: rain's table", x.rained(0, 8), 63);
        Check.due("back: no more rain", x.rained(0, 6), 0);
        Check.due("back: table", x.by(0, 9, 0), 48);
        Check.due("back: layer 1", x.table(1, 0, 0, 50), 50);
        Check.due("back: reading", x.differ(1, 5), 11 - x.head(1, 5));
        Check.due("back: not served", x.served(0, false), Check.NONE);
        Check.due("back: dry", x.dry(), 2);
    }

    private static void keepAndBack() {
        WellField x = full();
        Check.due("keep: 2", x.keep(), 2);
        for (int i = 0; i < 3; i++) {
            change(x);
            Check.due("back: 2, time " + i, x.back(), 2);
            checkFull(x);
        }
        x.back();
        Check.due("back: a new well has no draws of one that went", x.well(5, 0, 0, 1), 2);
        Check.due("back: its draws", x.of(2, 5), 0);
        Check.due("back: its limit", x.of(2, 4), -100000);
        Check.due("back: its readings", x.differ(2, 5), Check.NONE);
    }

    private static void sheetsAreNotKept() {
        WellField x = new WellField();
        x.well(0, 0, 0, 0);
        x.sheet(0, 1, 1);
        x.put(0, 0, 3);
        x.sheet(1, 1, 2);
        x.keep();
        x.put(0, 0, 4);
        x.sheet(1, 0, 0);
        x.sheet(2, 1, 1);
        x.back();
        x.draws(0, 0, 0);
        Check.due("back: sheets stay as they are", x.of(0, 5), 4);
        Check.due("back: one that went stays so", x.put(1, 0, 0), Check.MISSING);
        Check.due("back: one that came stays", x.put(2, 0, 0), 0);
    }

    private static void servedIsKept() {
        WellField x = new WellField();
        x.well(0, 0, 0, 0);
        x.licence(0, 1, 5);
        x.serve(0);
        x.licence(0, 2, 6);
        x.keep();
        x.limit(0, 100000);
        x.serve(0);
        Check.due("serve: nothing is FREE", x.served(0, false), 0);
        x.back();
        Check.due("back: what was served then", x.served(0, false), 5);
        Check.due("back: what came behind it", x.served(1, false), Check.NONE);
    }

    private static void keepInPlace() {
        WellField x = new WellField();
        x.well(0, 0, 0, 1);
        x.keep();
        x.well(0, 0, 0, 2);
        Check.due("keep: in place of what was", x.keep(), 2);
        x.well(0, 0, 0, 3);
        Check.due("back: to the latest", x.back(), 2);
        Check.due("back: stays", x.back(), 2);
    }

    private static void told() {
        WellField x = new WellField();
        Check.due("told: 4", x.told(4), Check.BEYOND);
        Check.due("told: -1", x.told(-1), Check.BEYOND);
        Check.due("told: both are findings", x.told(3), 2);
        x.keep();
        x.head(0, 0);
        x.back();
        Check.due("told: goes on with back()", x.told(3), 3);
        x.well(0, 0, 0, 0);
        x.differ(0, 0);
        x.most(0, 0);
        x.when(0, 0);
        x.table(0, 1, 0, 101);
        x.hold(0, 0, 0);
        x.put(0, 0, 0);
        x.sheet(0, 1, -1);
        x.served(0, false);
        x.fit(0, 0);
        Check.due("told: nine more", x.told(3), 12);
        Check.due("told: telling is no finding", x.told(3), 12);
        x.licence(0, 0, 0);
        x.read(0, 0, 0);
        Check.due("told: wells", x.told(0), 1);
        Check.due("told: licences", x.told(1), 1);
        Check.due("told: readings", x.told(2), 1);
    }

    /** Each act with each of its findings once. */
    private static void everyFindingIsCounted() {
        WellField x = Check.ofAllKinds();
        x.sheet(1, 1, 2);
        x.sheet(2, 2, 2);
        x.put(2, 0, 0x7fc00000);
        x.put(1, 0, 1001);
        int n = 0;
        n += finding(x.back()) + finding(x.well(6, 0, 0, 0)) + finding(x.limit(9, 0)) + finding(x.as(9, 0));
        n += finding(x.as(0, 1)) + finding(x.of(9, 0)) + finding(x.of(0, 6)) + finding(x.distance(0, 9));
        n += finding(x.table(2, 0, 0, 0)) + finding(x.table(0, 1, 0, 101)) + finding(x.rainTable(12, 0));
        Check.due("told: wells, tables", x.told(3), n);
        n += finding(x.sheet(4, 0, 0)) + finding(x.sheet(0, 1, -1)) + finding(x.sheet(0, 1, 25));
        n += finding(x.put(4, 0, 0)) + finding(x.put(0, 0, 0)) + finding(x.put(1, 2, 0));
        n += finding(x.copy(4, 0, 0, 0, 0)) + finding(x.copy(0, 0, 1, 0, 0)) + finding(x.copy(1, 0, 2, 0, 0));
        n += finding(x.copy(1, 0, 1, 0, 3)) + finding(x.draws(9, 0, 0)) + finding(x.draws(5, 0, 0));
        n += finding(x.draws(0, 0, 0)) + finding(x.draws(0, 0, 2)) + finding(x.draws(0, 0, 1));
        n += finding(x.draw(9, 0, 0)) + finding(x.draw(5, 0, 0)) + finding(x.counts(9, 0)) + finding(x.rain(24, 0));
        Check.due("told: sheets, draws, rain", x.told(3), n);
        n += finding(x.head(9, 0)) + finding(x.by(9, 0, 0)) + finding(x.rained(9, 0)) + finding(x.most(9, 0));
        n += finding(x.most(0, 0)) + finding(x.when(9, 0)) + finding(x.when(0, 0)) + finding(x.near(9, 0));
        n += finding(x.low(24)) + finding(x.without(9, 0, 0, 0)) + finding(x.free(9, 0));
        Check.due("told: heads", x.told(3), n);
        n += finding(x.licence(9, 0, 0)) + finding(x.licence(5, 0, 0)) + finding(x.served(0, true));
        for (int i = 0; i < 10; i++) {
            x.licence(0, 0, 0);
        }
        n += finding(x.licence(0, 0, 0)) + finding(x.serve(24)) + finding(x.served(0, true));
        n += finding(x.hold(9, 0, 0)) + finding(x.hold(0, 0, 0)) + finding(x.move(0, 0, 0)) + finding(x.move(0, 0, 5));
        x.draw(0, 0, 1000);
        n += finding(x.hold(4, 0, 1));
        Check.due("told: what may be drawn", x.told(3), n);
        n += finding(x.read(9, 0, 0)) + finding(x.differ(9, 0)) + finding(x.differ(0, 0)) + finding(x.fit(2, 0));
        n += finding(x.fit(0, 0));
        for (int i = 0; i < 40; i++) {
            x.read(i % 2, i / 2, 0);
        }
        n += finding(x.read(2, 0, 0));
        for (int i = 0; i < 4; i++) {
            x.well(0, 0, 0, 0);
        }
        n += finding(x.well(0, 0, 0, 0)) + finding(x.told(4));
        Check.due("told: all", x.told(3), n);
    }

    private static int finding(int answer) {
        Check.due("a finding: " + answer, answer < -999999999 ? 1 : 0, 1);
        return 1;
    }
}
