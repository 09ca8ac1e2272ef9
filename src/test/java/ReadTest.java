/** Promises 31 to 34: read, differ, fit, squares. */
final class ReadTest {
    public static void main(String[] args) {
        read();
        readTillFull();
        differ();
        fit();
        fitOfSeveral();
        fitCuts();
        fitFindings();
        squares();
        Check.finish();
    }

    private static void read() {
        WellField x = new WellField();
        x.well(0, 0, 0, 0);
        x.well(5, 0, 0, 0);
        Check.due("read: no well", x.read(2, 0, 0), Check.BEYOND);
        Check.due("read: well -1", x.read(-1, 0, 0), Check.BEYOND);
        Check.due("read: month 24", x.read(0, 24, 0), Check.BEYOND);
        Check.due("read: month -1", x.read(1, -1, 0), Check.BEYOND);
        Check.due("read: above", x.read(0, 0, 100000001), Check.BEYOND);
        Check.due("read: below", x.read(0, 0, -100000001), Check.BEYOND);
        Check.due("read: none yet", x.told(2), 0);
        Check.due("read: greatest", x.read(0, 0, 100000000), 1);
        Check.due("read: least", x.read(1, 23, -100000000), 2);
        Check.due("read: an older one goes", x.read(0, 0, 0), 2);
        Check.due("read: told", x.told(2), 2);
        Check.due("read: what was read last", x.differ(0, 0), 0);
        Check.due("read: at a post", x.differ(1, 23), -100000000);
    }

    private static void readTillFull() {
        WellField x = new WellField();
        for (int well = 0; well < 2; well++) {
            x.well(0, 0, 0, 0);
            for (int month = 0; month < 20; month++) {
                Check.due("read: one more", x.read(well, month, 1), well * 20 + month + 1);
            }
        }
        Check.due("read: 40 others", x.read(0, 20, 1), Check.FULL);
        Check.due("read: BEYOND ahead of FULL", x.read(0, 24, 1), Check.BEYOND);
        Check.due("read: in place of one", x.read(1, 19, 3), 40);
        Check.due("read: the new one", x.differ(1, 19), 3);
        Check.due("read: FULL changed nothing", x.differ(0, 20), Check.NONE);
        Check.due("read: still 40", x.told(2), 40);
    }

    private static void differ() {
        WellField x = new WellField();
        x.well(0, 0, 0, 100);
        x.draw(0, 4, 3);
        x.read(0, 4, 50);
        x.read(0, 5, 0);
        Check.due("differ: above", x.differ(0, 4), 250);
        Check.due("differ: below", x.differ(0, 5), -100);
        Check.due("differ: nothing was read", x.differ(0, 6), Check.NONE);
        Check.due("differ: no well", x.differ(1, 4), Check.BEYOND);
        Check.due("differ: well -1", x.differ(-1, 4), Check.BEYOND);
        Check.due("differ: month 24", x.differ(0, 24), Check.BEYOND);
        Check.due("differ: month -1", x.differ(0, -1), Check.BEYOND);
        x.draw(0, 4, 0);
        Check.due("differ: the head of now", x.differ(0, 4), -50);
    }

    private static void fit() {
        for (int f = 50; f <= 150; f += 10) {
            WellField x = new WellField();
            x.well(0, 0, 0, 0);
            x.well(0, 5, 0, 0);
            x.draw(0, 2, 10);
            x.read(0, 2, -10 * f);
            x.read(1, 2, -5 * f);
            Check.due("fit: " + f, x.fit(0, 0), f);
            Check.due("fit: squares then", x.squares(), 0);
            Check.due("fit: distance 0", x.table(0, 0, 0, f), f);
            Check.due("fit: distance 5", x.table(0, 5, 0, f / 2), f / 2);
            Check.due("fit: distance 9", x.table(0, 9, 0, f / 10), f / 10);
            Check.due("fit: the other layer stays", x.table(1, 0, 0, 50), 50);
        }
        WellField x = new WellField();
        x.well(0, 0, 0, 0);
        x.well(1, 0, 0, 0);
        x.table(1, 0, 3, 40);
        x.draw(0, 2, 10);
        x.read(1, 5, -520);
        Check.due("fit: layer 1, age 3", x.fit(1, 3), 130);
        Check.due("fit: its number", x.table(1, 0, 3, 52), 52);
        Check.due("fit: age 0 stays", x.table(1, 0, 0, 50), 50);
    }

    private static void fitOfSeveral() {
        WellField x = new WellField();
        x.well(0, 0, 0, 0);
        x.draw(0, 2, 2);
        x.read(0, 2, -210);
        Check.due("fit: of several the least", x.fit(0, 0), 100);
        x.read(0, 2, 100000);
        Check.due("fit: the bound", x.fit(0, 0), 50);
        Check.due("fit: halved", x.table(0, 0, 0, 50), 50);
        x.read(0, 2, -100000);
        Check.due("fit: the other bound", x.fit(0, 0), 150);
        Check.due("fit: of 50 is 75", x.table(0, 0, 0, 75), 75);
        Check.due("fit: what no draw meets", x.fit(1, 0), 50);
        Check.due("fit: is changed, too", x.table(1, 0, 0, 25), 25);
        Check.due("fit: and cut", x.table(1, 1, 0, 22), 22);
    }

    private static void fitCuts() {
        WellField x = new WellField();
        x.well(0, 0, 0, 0);
        x.table(0, 0, 0, 1000);
        x.table(0, 1, 0, 700);
        x.table(0, 2, 0, 99);
        x.draw(0, 0, 1);
        x.read(0, 0, -2000);
        Check.due("fit: at most 1000, so the least of several", x.fit(0, 0), 100);
        x.well(0, 1, 0, 0);
        x.read(1, 0, -2000);
        Check.due("fit: the far one decides", x.fit(0, 0), 150);
        Check.due("fit: 1000 stays", x.table(0, 0, 0, 1000), 1000);
        Check.due("fit: 1050 is cut to 1000", x.table(0, 1, 0, 1000), 1000);
        Check.due("fit: 148.5 is cut", x.table(0, 2, 0, 148), 148);
        Check.due("fit: 105", x.table(0, 3, 0, 105), 105);
    }

    private static void fitFindings() {
        WellField x = new WellField();
        x.well(0, 0, 0, 0);
        Check.due("fit: layer 2", x.fit(2, 0), Check.BEYOND);
        Check.due("fit: layer -1", x.fit(-1, 0), Check.BEYOND);
        Check.due("fit: age 12", x.fit(0, 12), Check.BEYOND);
        Check.due("fit: age -1", x.fit(0, -1), Check.BEYOND);
        Check.due("fit: no readings", x.fit(0, 0), Check.NONE);
        Check.due("fit: nothing changed", x.table(0, 0, 0, 100), 100);
        x.read(0, 0, 1);
        Check.due("fit: BEYOND with readings", x.fit(0, 12), Check.BEYOND);
        Check.due("fit: age 11", x.fit(1, 11), 50);
    }

    private static void squares() {
        WellField x = new WellField();
        Check.due("squares: none", x.squares(), 0);
        x.well(0, 0, 0, 0);
        x.read(0, 0, 3);
        x.read(0, 23, -4);
        Check.due("squares: two", x.squares(), 25);
        for (int month = 0; month < 24; month++) {
            x.read(0, month, -100000000);
        }
        Check.due("squares: beyond 32 bits", x.squares(), 24L * 100000000L * 100000000L);
    }
}
