/** Promises 17 to 24: head, by, rained, most, when, near, low, without. */
final class HeadsTest {
    public static void main(String[] args) {
        head();
        headByLayers();
        headByAges();
        headAtItsGreatest();
        by();
        rained();
        most();
        whenAndNear();
        low();
        without();
        wrong();
        Check.finish();
    }

    private static void head() {
        WellField x = new WellField();
        x.well(0, 0, 0, 1234);
        x.well(3, 2, 0, -50);
        x.well(5, 4, 4, 0);
        x.draw(0, 6, 10);
        x.draw(1, 6, 4);
        x.rain(6, 3);
        Check.due("head: its own, a filling's, rain", x.head(0, 6), 1234 - 1000 + 320 + 30);
        Check.due("head: of the filling", x.head(1, 6), -50 - 800 + 400 + 30);
        Check.due("head: of the post", x.head(2, 6), -600 + 240 + 30);
        Check.due("head: a month ahead", x.head(0, 5), 1234);
        Check.due("head: a month on", x.head(0, 7), 1234);
    }

    private static void headByLayers() {
        WellField x = new WellField();
        x.well(0, 0, 0, 0);
        x.well(1, 1, 0, 0);
        x.well(1, 2, 0, 0);
        x.draw(0, 0, 1);
        x.draw(1, 1, 1);
        Check.due("layers: WELL by itself", x.head(0, 0), -100);
        Check.due("layers: DEEP by WELL", x.head(1, 0), -45);
        Check.due("layers: WELL by DEEP", x.head(0, 1), -45);
        Check.due("layers: DEEP by itself", x.head(1, 1), -100);
        Check.due("layers: DEEP by DEEP", x.head(2, 1), -90);
    }

    private static void headByAges() {
        WellField x = new WellField();
        x.well(0, 0, 0, 0);
        for (int age = 0; age < 12; age++) {
            x.table(0, 0, age, 100 + age);
            x.rainTable(age, 3 + age);
        }
        x.draw(0, 2, 2);
        for (int month = 0; month < 24; month++) {
            int age = month - 2;
            Check.due("ages: month " + month, x.head(0, month), age < 0 || age > 11 ? 0 : -2 * (100 + age));
        }
        x.draw(0, 2, 0);
        x.rain(5, 4);
        for (int month = 0; month < 24; month++) {
            int age = month - 5;
            Check.due("ages of rain: month " + month, x.head(0, month), age < 0 || age > 11 ? 0 : 4 * (3 + age));
        }
    }

    private static void headAtItsGreatest() {
        WellField x = new WellField();
        for (int well = 0; well < 10; well++) {
            x.well(well < 9 ? 0 : 5, 0, 0, -100000);
        }
        for (int age = 0; age < 12; age++) {
            x.table(0, 0, age, 1000);
        }
        for (int month = 0; month < 24; month++) {
            for (int well = 0; well < 9; well++) {
                x.draw(well, month, 1000);
            }
        }
        Check.due("head: the lowest", x.head(9, 23), -100000 - 9 * 12 * 1000000);
        x.read(9, 23, 100000000);
        Check.due("differ: the greatest", x.differ(9, 23), 208100000);
        Check.due("squares: the greatest", x.squares(), 208100000L * 208100000L);
    }

    private static void by() {
        WellField x = Check.ofAllKinds();
        x.table(0, 0, 3, 7);
        x.table(1, 0, 3, 5);
        for (int well = 0; well < 5; well++) {
            x.draw(well, 4, 10 + well);
            x.draw(well, 7, 20 + well);
        }
        int[] due = {2000 + 70, 1050 + 55, 12 * 7, -2300 - 91, -2400 - 98, 0};
        for (int of = 0; of < 6; of++) {
            Check.due("by(0, 7, " + of + ")", x.by(0, 7, of), due[of]);
        }
        Check.due("by(1, 7, 1)", x.by(1, 7, 1), 2100 + 77);
        Check.due("by(1, 7, 0)", x.by(1, 7, 0), 1000 + 50);
        Check.due("by: of none drawn", x.by(0, 3, 0), 0);
        x.draw(0, 0, 9);
        Check.due("by: of month 0", x.by(0, 0, 0), 900);
    }

    private static void rained() {
        WellField x = new WellField();
        x.well(5, 0, 0, 77);
        x.well(1, 9, 9, 0);
        x.rainTable(11, 100);
        x.rain(0, 1);
        x.rain(11, 2);
        x.draw(1, 11, 9);
        for (int well = 0; well < 2; well++) {
            Check.due("rained: month 11", x.rained(well, 11), 120);
            Check.due("rained: month 12", x.rained(well, 12), 0);
            Check.due("rained: month 22", x.rained(well, 22), 200);
        }
    }

    private static void most() {
        WellField x = Check.ofAllKinds();
        Check.due("most: nothing drawn", x.most(0, 0), Check.NONE);
        x.draw(3, 0, 100);
        Check.due("most: a filling lowers nothing", x.most(0, 0), Check.NONE);
        x.draw(2, 0, 5);
        Check.due("most: the paired one", x.most(0, 0), 2);
        x.draw(1, 0, 10);
        Check.due("most: of several the lowest", x.most(0, 0), 1);
        x.draw(2, 0, 6);
        Check.due("most: deep counts half from above", x.most(0, 0), 2);
        Check.due("most: deep by deep", x.most(1, 0), 1);
        x.draw(0, 0, 6);
        Check.due("most: itself", x.most(0, 0), 0);
        Check.due("most: another month", x.most(0, 1), Check.NONE);
        x.dry();
        x.table(0, 0, 1, 1);
        x.draw(2, 2, 1);
        Check.due("most: a lowering of 1", x.most(0, 3), 2);
    }

    private static void whenAndNear() {
        WellField x = new WellField();
        x.well(0, 0, 0, 1000);
        x.limit(0, 500);
        x.draw(0, 4, 5);
        Check.due("when: as the limit is not LOW", x.when(0, 0), Check.NONE);
        Check.due("near: 0", x.near(0, 0), 0);
        Check.due("near: behind it", x.near(0, 5), 500);
        Check.due("near: from the month ahead of it", x.near(0, 3), 0);
        x.draw(0, 10, 6);
        x.draw(0, 23, 8);
        Check.due("when: first", x.when(0, 0), 10);
        Check.due("when: from itself on", x.when(0, 10), 10);
        Check.due("when: next", x.when(0, 11), 23);
        Check.due("when: the last month", x.when(0, 23), 23);
        Check.due("near: least", x.near(0, 0), -300);
        x.draw(0, 23, 0);
        Check.due("near: less least", x.near(0, 0), -100);
        Check.due("near: the last month", x.near(0, 23), 500);
        Check.due("when: none any more", x.when(0, 11), Check.NONE);
    }

    private static void low() {
        WellField x = Check.ofAllKinds();
        Check.due("low: none", x.low(0), 0);
        for (int well = 0; well < 6; well++) {
            x.limit(well, well - 3);
        }
        Check.due("low: limits 1 and 2", x.low(0), 2);
        x.draw(1, 23, 1);
        Check.due("low: all", x.low(23), 6);
        x.rain(23, 5);
        Check.due("low: rained", x.low(23), 3);
    }

    private static void without() {
        WellField x = Check.ofAllKinds();
        x.table(0, 0, 2, 30);
        x.table(0, 0, 1, 50);
        for (int month = 0; month < 24; month++) {
            x.draw(0, month, 1);
            x.draw(3, month, 2);
            x.draw(2, month, 3);
        }
        Check.due("without: from the start", x.without(5, 10, 0, 0), 180);
        Check.due("without: from the oldest", x.without(5, 10, 0, 8), 180);
        Check.due("without: from a month ahead", x.without(5, 10, 0, 9), 150);
        Check.due("without: from that month", x.without(5, 10, 0, 10), 100);
        Check.due("without: from a month behind", x.without(5, 10, 0, 11), 0);
        Check.due("without: a filling", x.without(5, 10, 3, 9), -300);
        Check.due("without: a paired one", x.without(5, 10, 2, 9), 300);
        Check.due("without: itself", x.without(0, 0, 0, 0), 100);
        Check.due("without: nothing changed", x.of(0, 5), 24);
    }

    private static void wrong() {
        WellField x = Check.ofAllKinds();
        x.draw(0, 0, 1);
        int[] wells = {Integer.MIN_VALUE, -1, 6, 10, Integer.MAX_VALUE};
        int[] months = {Integer.MIN_VALUE, -1, 24, Integer.MAX_VALUE};
        for (int well : wells) {
            Check.due("head: well " + well, x.head(well, 0), Check.BEYOND);
            Check.due("by: well " + well, x.by(well, 0, 0), Check.BEYOND);
            Check.due("by: of " + well, x.by(0, 0, well), Check.BEYOND);
            Check.due("rained: well " + well, x.rained(well, 0), Check.BEYOND);
            Check.due("most: well " + well, x.most(well, 0), Check.BEYOND);
            Check.due("when: well " + well, x.when(well, 0), Check.BEYOND);
            Check.due("near: well " + well, x.near(well, 0), Check.BEYOND);
            Check.due("without: well " + well, x.without(well, 0, 0, 0), Check.BEYOND);
            Check.due("without: of " + well, x.without(0, 0, well, 0), Check.BEYOND);
        }
        for (int month : months) {
            Check.due("head: month " + month, x.head(0, month), Check.BEYOND);
            Check.due("by: month " + month, x.by(0, month, 0), Check.BEYOND);
            Check.due("rained: month " + month, x.rained(0, month), Check.BEYOND);
            Check.due("most: month " + month, x.most(0, month), Check.BEYOND);
            Check.due("when: month " + month, x.when(0, month), Check.BEYOND);
            Check.due("near: month " + month, x.near(0, month), Check.BEYOND);
            Check.due("low: month " + month, x.low(month), Check.BEYOND);
            Check.due("without: month " + month, x.without(0, month, 0, 0), Check.BEYOND);
            Check.due("without: from " + month, x.without(0, 0, 0, month), Check.BEYOND);
        }
        Check.due("told: all were findings", x.told(3), wells.length * 9 + months.length * 9);
    }
}
