/** Promises 1 to 8: a new object, well, limit, as, of, distance, table, rainTable. */
final class WellsTest {
    public static void main(String[] args) {
        newObject();
        well();
        limit();
        as();
        of();
        distance();
        table();
        tableKeepsOrder();
        rainTable();
        Check.finish();
    }

    private static void newObject() {
        WellField x = new WellField();
        for (int what = 0; what < 4; what++) {
            Check.due("new: told(" + what + ")", x.told(what), 0);
        }
        Check.due("new: dry", x.dry(), 0);
        Check.due("new: squares", x.squares(), 0);
        for (int month = 0; month < 24; month++) {
            Check.due("new: low(" + month + ")", x.low(month), 0);
        }
        for (int s = 0; s < 4; s++) {
            Check.due("new: put in sheet " + s, x.put(s, 0, 0), Check.MISSING);
        }
        for (int distance = 0; distance < 10; distance++) {
            for (int age = 0; age < 12; age++) {
                int first = age == 0 ? 100 - 10 * distance : 0;
                Check.due("new: table(0, " + distance + ", " + age + ")", x.table(0, distance, age, first), first);
                Check.due("new: table(1, " + distance + ", " + age + ")", x.table(1, distance, age, first / 2), first / 2);
            }
        }
        for (int age = 0; age < 12; age++) {
            Check.due("new: rainTable(" + age + ")", x.rainTable(age, 7), age == 0 ? 10 : 0);
        }
    }

    private static void well() {
        WellField x = new WellField();
        for (int v : Check.NEVER) {
            Check.due("well: kind " + v, x.well(v, 0, 0, 0), Check.BEYOND);
            Check.due("well: x " + v, x.well(0, v, 0, 0), Check.BEYOND);
            Check.due("well: y " + v, x.well(0, 0, v, 0), Check.BEYOND);
        }
        Check.due("well: kind 6", x.well(6, 0, 0, 0), Check.BEYOND);
        Check.due("well: x 31", x.well(0, 31, 0, 0), Check.BEYOND);
        Check.due("well: y 31", x.well(0, 0, 31, 0), Check.BEYOND);
        Check.due("well: rest 100001", x.well(0, 0, 0, 100001), Check.BEYOND);
        Check.due("well: rest -100001", x.well(0, 0, 0, -100001), Check.BEYOND);
        Check.due("well: none made by findings", x.told(0), 0);
        Check.due("well: least", x.well(0, 0, 0, -100000), 0);
        Check.due("well: greatest", x.well(5, 30, 30, 100000), 1);
        for (int i = 2; i < 10; i++) {
            Check.due("well: " + i, x.well(i % 6, i, i, i), i);
        }
        Check.due("well: an eleventh", x.well(0, 0, 0, 0), Check.FULL);
        Check.due("well: BEYOND ahead of FULL", x.well(6, 0, 0, 0), Check.BEYOND);
        Check.due("well: still 10", x.told(0), 10);
        Check.due("well: the last stands", x.of(9, 3), 9);
    }

    private static void limit() {
        WellField x = new WellField();
        Check.due("limit: no well", x.limit(0, 0), Check.BEYOND);
        x.well(0, 0, 0, 0);
        Check.due("limit: at first", x.limit(0, 100000), -100000);
        Check.due("limit: above", x.limit(0, 100001), Check.BEYOND);
        Check.due("limit: below", x.limit(0, -100001), Check.BEYOND);
        Check.due("limit: was 100000", x.limit(0, -100000), 100000);
        Check.due("limit: was -100000", x.limit(0, 3), -100000);
        Check.due("limit: of tells it", x.of(0, 4), 3);
        for (int well : Check.NEVER) {
            Check.due("limit: well " + well, x.limit(well, 0), Check.BEYOND);
        }
    }

    private static void as() {
        WellField x = Check.ofAllKinds();
        int[] above = {-1, 0, 0, 0, 3, 0};
        for (int kind = 0; kind < 6; kind++) {
            for (int asked = 0; asked < 6; asked++) {
                boolean is = false;
                for (int k = kind; k >= 0; k = above[k]) {
                    is = is || k == asked;
                }
                Check.due("as(" + kind + ", " + asked + ")", x.as(kind, asked), is ? kind : Check.KIND);
            }
        }
        Check.due("as: no well", x.as(6, 0), Check.BEYOND);
        Check.due("as: well -1", x.as(-1, 0), Check.BEYOND);
        Check.due("as: kind 6", x.as(0, 6), Check.BEYOND);
        Check.due("as: kind -1", x.as(0, -1), Check.BEYOND);
    }

    private static void of() {
        WellField x = new WellField();
        Check.due("of: no well", x.of(0, 0), Check.BEYOND);
        x.well(0, 1, 2, 3);
        x.well(2, 30, 29, -4);
        x.draw(1, 0, 5);
        x.draw(1, 1, 6);
        x.draw(1, 23, 1000);
        int[] due = {2, 30, 29, -4, -100000, 1011};
        for (int what = 0; what < 6; what++) {
            Check.due("of(1, " + what + ")", x.of(1, what), due[what]);
        }
        Check.due("of: a filling's draws as told", fillingsDraws(), 7);
        Check.due("of(1, 6)", x.of(1, 6), Check.BEYOND);
        Check.due("of(1, -1)", x.of(1, -1), Check.BEYOND);
        Check.due("of(2, 0)", x.of(2, 0), Check.BEYOND);
    }

    private static int fillingsDraws() {
        WellField x = Check.ofAllKinds();
        x.draw(3, 2, 7);
        return x.of(3, 5);
    }

    private static void distance() {
        WellField x = new WellField();
        x.well(0, 10, 10, 0);
        x.well(0, 13, 11, 0);
        x.well(0, 8, 5, 0);
        x.well(0, 10, 19, 0);
        x.well(0, 20, 10, 0);
        x.well(0, 0, 30, 0);
        int[] due = {0, 3, 5, 9, 9, 9};
        for (int other = 0; other < 6; other++) {
            Check.due("distance(0, " + other + ")", x.distance(0, other), due[other]);
            Check.due("distance(" + other + ", 0)", x.distance(other, 0), due[other]);
        }
        Check.due("distance(1, 2)", x.distance(1, 2), 6);
        Check.due("distance(0, 6)", x.distance(0, 6), Check.BEYOND);
        Check.due("distance(6, 0)", x.distance(6, 0), Check.BEYOND);
        Check.due("distance(-1, 0)", x.distance(-1, 0), Check.BEYOND);
    }

    private static void table() {
        WellField x = new WellField();
        for (int v : Check.NEVER) {
            Check.due("table: layer " + v, x.table(v, 0, 0, 100), Check.BEYOND);
            Check.due("table: distance " + v, x.table(0, v, 0, 100), Check.BEYOND);
            Check.due("table: age " + v, x.table(0, 0, v, 100), Check.BEYOND);
            Check.due("table: v " + v, x.table(0, 0, 0, v), Check.BEYOND);
        }
        Check.due("table: layer 2", x.table(2, 0, 0, 100), Check.BEYOND);
        Check.due("table: distance 10", x.table(0, 10, 0, 5), Check.BEYOND);
        Check.due("table: age 12", x.table(0, 0, 12, 0), Check.BEYOND);
        Check.due("table: BEYOND ahead of SIZE", x.table(0, 5, 0, 1001), Check.BEYOND);
        Check.due("table: greatest", x.table(1, 0, 11, 1000), 0);
        Check.due("table: it was", x.table(1, 0, 11, 0), 1000);
    }

    private static void tableKeepsOrder() {
        WellField x = new WellField();
        Check.due("table: above one less", x.table(0, 5, 0, 61), Check.SIZE);
        Check.due("table: below one more", x.table(0, 5, 0, 39), Check.SIZE);
        Check.due("table: as one less", x.table(0, 5, 0, 60), 50);
        Check.due("table: as one more", x.table(0, 5, 0, 40), 60);
        Check.due("table: distance 0 may rise", x.table(0, 0, 0, 1000), 100);
        Check.due("table: distance 0 below 1", x.table(0, 0, 0, 89), Check.SIZE);
        Check.due("table: distance 9 may fall", x.table(0, 9, 0, 0), 10);
        Check.due("table: distance 9 above 8", x.table(0, 9, 0, 21), Check.SIZE);
        Check.due("table: layer 1 has its own", x.table(1, 5, 0, 31), Check.SIZE);
        Check.due("table: an age has its own", x.table(0, 5, 1, 1), Check.SIZE);
        Check.due("table: a finding changes nothing", x.table(0, 5, 0, 50), 40);
        x.table(1, 0, 3, 50);
        x.table(1, 1, 3, 40);
        Check.due("table: below one more of that age", x.table(1, 0, 3, 39), Check.SIZE);
        Check.due("table: above one less of that age", x.table(1, 1, 3, 51), Check.SIZE);
        Check.due("table: as one more of that age", x.table(1, 0, 3, 40), 50);
    }

    private static void rainTable() {
        WellField x = new WellField();
        x.well(0, 0, 0, 0);
        x.rain(3, 2);
        Check.due("rainTable: age 12", x.rainTable(12, 0), Check.BEYOND);
        Check.due("rainTable: age -1", x.rainTable(-1, 0), Check.BEYOND);
        Check.due("rainTable: v 1001", x.rainTable(0, 1001), Check.BEYOND);
        Check.due("rainTable: v -1", x.rainTable(0, -1), Check.BEYOND);
        Check.due("rainTable: was", x.rainTable(0, 1000), 10);
        Check.due("rainTable: no order is asked", x.rainTable(5, 1000), 0);
        Check.due("rainTable: was 1000", x.rainTable(5, 4), 1000);
        Check.due("rainTable: head of the month", x.head(0, 3), 2000);
        Check.due("rainTable: head five on", x.head(0, 8), 8);
    }
}
