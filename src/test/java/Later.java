import java.util.ArrayList;
import java.util.List;

/**
 * All that later calls tell of an object, but for told(3). It is asked in parts, each of an object of its own, as
 * all of it would be more than 512 calls; so a part may change the object by asking.
 */
final class Later {
    private static final int OF_NOW = 5;
    /** Those of now, the sheets, and those of now once more after back(). */
    static final int PARTS = OF_NOW + 1 + OF_NOW;

    private Later() {
    }

    static List<Long> part(WellField x, int part) {
        List<Long> told = new ArrayList<>();
        if (part == OF_NOW) {
            sheets(x, told);
            return told;
        }
        if (part > OF_NOW) {
            told.add((long) x.back());
        }
        switch (part % (OF_NOW + 1)) {
            case 0: wellsAndRain(x, told); break;
            case 1: draws(x, told); break;
            case 2: tables(x, told); break;
            case 3: readings(x, told); break;
            default: licences(x, told); break;
        }
        return told;
    }

    private static void wellsAndRain(WellField x, List<Long> told) {
        for (int what = 0; what < 3; what++) {
            told.add((long) x.told(what));
        }
        for (int well = 0; well < 10; well++) {
            for (int what = 0; what < 6; what++) {
                told.add((long) x.of(well, what));
            }
        }
        for (int month = 0; month < 24; month++) {
            told.add((long) x.rain(month, 0));
        }
        for (int age = 0; age < 12; age++) {
            told.add((long) x.rainTable(age, 0));
        }
    }

    private static void draws(WellField x, List<Long> told) {
        for (int well = 0; well < 10; well++) {
            for (int month = 0; month < 24; month++) {
                told.add((long) x.draw(well, month, 0));
            }
        }
    }

    /** From far to near, as a number may not be below that of one more. */
    private static void tables(WellField x, List<Long> told) {
        for (int layer = 0; layer < 2; layer++) {
            for (int distance = 9; distance >= 0; distance--) {
                for (int age = 0; age < 12; age++) {
                    told.add((long) x.table(layer, distance, age, 0));
                }
            }
        }
    }

    private static void readings(WellField x, List<Long> told) {
        told.add(x.squares());
        for (int well = 0; well < 10; well++) {
            for (int month = 0; month < 24; month++) {
                told.add((long) x.differ(well, month));
            }
        }
    }

    /** What was served, and then by serving anew the wells, years and amounts. */
    private static void licences(WellField x, List<Long> told) {
        for (int round = 0; round < 3; round++) {
            for (int licence = 0; licence < 10; licence++) {
                told.add((long) x.served(licence, false));
                told.add((long) x.served(licence, true));
            }
            for (int well = 0; well < 10; well++) {
                told.add((long) x.of(well, 5));
                x.limit(well, round == 0 ? -20000 : -100000);
            }
            told.add((long) x.serve(round));
        }
    }

    /** Each number comes to the sheet's begin, and from there to a draw; more of it no call tells. */
    private static void sheets(WellField x, List<Long> told) {
        for (int s = 0; s < 4; s++) {
            for (int t = 0; t < 4; t++) {
                told.add((long) x.copy(s, 0, t, 0, 0));
            }
        }
        x.well(0, 0, 0, 0);
        for (int s = 0; s < 4; s++) {
            for (int i = 0; i < 24; i++) {
                told.add((long) x.copy(s, i, s, 0, 1));
                told.add((long) x.draws(0, 23, s));
                told.add((long) x.draw(0, 23, 0));
            }
        }
    }
}
