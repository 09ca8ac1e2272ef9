import java.lang.reflect.InvocationTargetException;
import java.lang.reflect.Method;
import java.util.Arrays;

/**
 * Each argument of each call: the last that is taken and the first that is not, on both sides, and the ends of int.
 * What is not taken is BEYOND, alone and together with every other wrong argument, and changes nothing.
 */
final class ArgumentsTest {
    /** A call with arguments that are taken in Fields.FULL, and the bounds of each: {taken, least, greatest}. */
    private record Asked(String name, int[]... args) {
    }

    private static final int[] WELL = {2, 0, 9};
    private static final int[] OTHER = {1, 0, 9};
    private static final int[] MONTH = {5, 0, 23};
    private static final int[] AMOUNT = {7, 0, 1000};
    private static final int[] HEAD = {-3, -100000, 100000};
    private static final int[] SHEET = {1, 0, 3};
    private static final int[] AGE = {1, 0, 11};
    private static final int[] LAYER = {1, 0, 1};

    private static final Asked[] ALL = {
        new Asked("limit", WELL, HEAD),
        new Asked("as", WELL, new int[] {0, 0, 5}),
        new Asked("of", WELL, new int[] {3, 0, 5}),
        new Asked("distance", WELL, OTHER),
        new Asked("table", LAYER, new int[] {4, 0, 9}, AGE, AMOUNT),
        new Asked("rainTable", AGE, AMOUNT),
        new Asked("put", SHEET, new int[] {4, 0, 23}),
        new Asked("draws", WELL, MONTH, SHEET),
        new Asked("draw", WELL, MONTH, AMOUNT),
        new Asked("counts", WELL, MONTH),
        new Asked("rain", MONTH, AMOUNT),
        new Asked("head", WELL, MONTH),
        new Asked("by", WELL, MONTH, OTHER),
        new Asked("rained", WELL, MONTH),
        new Asked("most", WELL, MONTH),
        new Asked("when", WELL, MONTH),
        new Asked("near", WELL, MONTH),
        new Asked("low", MONTH),
        new Asked("without", WELL, MONTH, OTHER, MONTH),
        new Asked("free", WELL, MONTH),
        new Asked("licence", WELL, new int[] {5, 0, 9999}, AMOUNT),
        new Asked("serve", MONTH),
        new Asked("hold", new int[] {8, 0, 9}, MONTH, HEAD),
        new Asked("move", WELL, MONTH, OTHER),
        new Asked("read", WELL, MONTH, new int[] {6, -100000000, 100000000}),
        new Asked("differ", WELL, MONTH),
        new Asked("fit", LAYER, AGE),
        new Asked("told", new int[] {0, 0, 3}),
    };

    public static void main(String[] args) throws Exception {
        for (Asked asked : ALL) {
            lastThatAreTaken(asked);
            firstThatAreNot(asked);
            twoAtOnce(asked);
        }
        wells();
        served();
        sheets();
        whatOfAnEmptyField();
        Check.finish();
    }

    private static int[] taken(Asked asked) {
        int[] values = new int[asked.args.length];
        for (int i = 0; i < values.length; i++) {
            values[i] = asked.args[i][0];
        }
        return values;
    }

    private static int[] notTaken(int[] bounds) {
        return new int[] {Integer.MIN_VALUE, bounds[1] - 1, bounds[2] + 1, Integer.MAX_VALUE};
    }

    private static void lastThatAreTaken(Asked asked) {
        for (int i = 0; i < asked.args.length; i++) {
            for (int edge = 1; edge < 3; edge++) {
                int[] values = taken(asked);
                values[i] = asked.args[i][edge];
                boolean beyond = call(Fields.FULL.make(), asked.name, values) == Check.BEYOND;
                Check.due(asked.name + Arrays.toString(values) + " is BEYOND", beyond ? 1 : 0, 0);
            }
        }
    }

    private static void firstThatAreNot(Asked asked) {
        for (int i = 0; i < asked.args.length; i++) {
            for (int wrong : notTaken(asked.args[i])) {
                int[] values = taken(asked);
                values[i] = wrong;
                beyond(asked.name, values);
            }
        }
    }

    private static void twoAtOnce(Asked asked) {
        for (int i = 0; i < asked.args.length; i++) {
            for (int j = i + 1; j < asked.args.length; j++) {
                for (int side = 1; side < 3; side++) {
                    int[] values = taken(asked);
                    values[i] = notTaken(asked.args[i])[side];
                    values[j] = notTaken(asked.args[j])[3 - side];
                    beyond(asked.name, values);
                }
            }
        }
    }

    private static void beyond(String name, int[] values) {
        Refused.due(Fields.FULL, name + Arrays.toString(values), Check.BEYOND, x -> (int) call(x, name, values));
    }

    /** On an object that has room; FULL would be due in a full one. */
    private static void wells() {
        int[][] bounds = {{0, 5}, {0, 30}, {0, 30}, {-100000, 100000}};
        for (int i = 0; i < 4; i++) {
            for (int edge = 0; edge < 2; edge++) {
                int[] values = {1, 2, 3, 4};
                values[i] = bounds[i][edge];
                WellField x = new WellField();
                Check.due("well" + Arrays.toString(values), call(x, "well", values), 0);
                for (int what = 0; what < 4; what++) {
                    Check.due("well" + Arrays.toString(values) + ": of " + what, x.of(0, what), values[what]);
                }
                int step = edge == 0 ? -1 : 1;
                for (int wrong : new int[] {values[i] + step, edge == 0 ? Integer.MIN_VALUE : Integer.MAX_VALUE}) {
                    int[] not = values.clone();
                    not[i] = wrong;
                    Refused.due(Fields.BUSY, "well" + Arrays.toString(not), Check.BEYOND,
                        y -> (int) call(y, "well", not));
                }
            }
        }
    }

    private static void served() {
        for (boolean lacks : new boolean[] {false, true}) {
            WellField x = Fields.FULL.make();
            Check.due("served(0)", x.served(0, lacks) >= 0 ? 1 : 0, 1);
            Check.due("served(9)", x.served(9, lacks) >= 0 ? 1 : 0, 1);
            for (int wrong : new int[] {Integer.MIN_VALUE, -1, 10, Integer.MAX_VALUE}) {
                Refused.due(Fields.FULL, "served(" + wrong + ")", Check.BEYOND, y -> y.served(wrong, lacks));
            }
            Refused.due(Fields.BUSY, "served(4)", Check.BEYOND, y -> y.served(4, lacks));
        }
    }

    /** sheet, put and copy, whose number of numbers is a bound, too. */
    private static void sheets() {
        for (int wrong : new int[] {Integer.MIN_VALUE, -1, 4, Integer.MAX_VALUE}) {
            Refused.due(Fields.FULL, "sheet(" + wrong + ", 1, 1)", Check.BEYOND, x -> x.sheet(wrong, 1, 1));
            Refused.due(Fields.FULL, "copy(" + wrong + ", 0, 0, 0, 1)", Check.BEYOND, x -> x.copy(wrong, 0, 0, 0, 1));
            Refused.due(Fields.FULL, "copy(0, 0, " + wrong + ", 0, 1)", Check.BEYOND, x -> x.copy(0, 0, wrong, 0, 1));
        }
        for (int wrong : new int[] {Integer.MIN_VALUE, -1, 3, Integer.MAX_VALUE}) {
            Refused.due(Fields.FULL, "sheet(0, " + wrong + ", 1)", Check.BEYOND, x -> x.sheet(0, wrong, 1));
        }
        for (int kind = 0; kind < 3; kind++) {
            int k = kind;
            for (int wrong : new int[] {25, Integer.MAX_VALUE}) {
                Refused.due(Fields.FULL, "sheet(0, " + k + ", " + wrong + ")", Check.BEYOND, x -> x.sheet(0, k, wrong));
            }
            for (int wrong : new int[] {-1, Integer.MIN_VALUE}) {
                Refused.due(Fields.FULL, "sheet(0, " + k + ", " + wrong + ")", Check.SIZE, x -> x.sheet(0, k, wrong));
            }
            for (int n : new int[] {0, 1, 24}) {
                Check.due("sheet(3, " + k + ", " + n + ")", Fields.BUSY.make().sheet(3, k, n), k == 0 ? 0 : n);
            }
        }
        for (int wrong : new int[] {Integer.MIN_VALUE, -1, 25, Integer.MAX_VALUE}) {
            Refused.due(Fields.FULL, "copy(0, " + wrong + ", 1, 0, 0)", Check.BEYOND, x -> x.copy(0, wrong, 1, 0, 0));
            Refused.due(Fields.FULL, "copy(0, 0, 1, " + wrong + ", 0)", Check.BEYOND, x -> x.copy(0, 0, 1, wrong, 0));
            Refused.due(Fields.FULL, "copy(0, 0, 1, 0, " + wrong + ")", Check.BEYOND, x -> x.copy(0, 0, 1, 0, wrong));
            Refused.due(Fields.FULL, "copy(0, " + wrong + ", 1, 9, 9)", Check.BEYOND, x -> x.copy(0, wrong, 1, 9, 9));
            Refused.due(Fields.FULL, "copy(0, 9, 1, " + wrong + ", 9)", Check.BEYOND, x -> x.copy(0, 9, 1, wrong, 9));
            Refused.due(Fields.FULL, "copy(0, 9, 1, 9, " + wrong + ")", Check.BEYOND, x -> x.copy(0, 9, 1, 9, wrong));
        }
    }

    /** Where there is no well, well 0 is none; where there is no licence, so is licence 0. */
    private static void whatOfAnEmptyField() {
        for (Asked asked : ALL) {
            if (asked.args[0] == WELL || asked.name.equals("hold")) {
                int[] values = taken(asked);
                values[0] = 0;
                Refused.due(Fields.EMPTY, asked.name + Arrays.toString(values), Check.BEYOND,
                    x -> (int) call(x, asked.name, values));
            }
        }
        Refused.due(Fields.EMPTY, "served(0)", Check.BEYOND, x -> x.served(0, false));
        Refused.due(Fields.BUSY, "head(6, 0): there are six", Check.BEYOND, x -> x.head(6, 0));
    }

    /** put is asked for number 3 to become 3, whatever else its arguments are. */
    private static long call(WellField x, String name, int[] values) {
        int[] all = name.equals("put") ? new int[] {values[0], values[1], 3} : values;
        Class<?>[] types = new Class<?>[all.length];
        Object[] boxed = new Object[all.length];
        for (int i = 0; i < all.length; i++) {
            types[i] = int.class;
            boxed[i] = all[i];
        }
        try {
            Method asked = WellField.class.getMethod(name, types);
            return ((Number) asked.invoke(x, boxed)).longValue();
        } catch (NoSuchMethodException | IllegalAccessException | InvocationTargetException e) {
            throw new IllegalStateException(name + Arrays.toString(all), e);
        }
    }
}
