/** What all tests of the project share: they count the wrong answers, and end with 1 if there was one. */
final class Check {
    static final int BEYOND = -1000000001;
    static final int MISSING = -1000000002;
    static final int SIZE = -1000000003;
    static final int KIND = -1000000004;
    static final int FULL = -1000000005;
    static final int NONE = -1000000006;
    static final int NO_NUMBER = -1000000007;

    /** Wrong whatever a call asks: the ends of int, which a sloppy sum would carry round. */
    static final int[] NEVER = {Integer.MIN_VALUE, -1, Integer.MAX_VALUE};

    private static int wrong = 0;
    private static int asked = 0;

    private Check() {
    }

    static void due(String call, long got, long want) {
        asked++;
        if (got != want) {
            wrong++;
            System.out.println(call + " answered " + got + ", due is " + want);
        }
    }

    static void finish() {
        System.out.println(wrong == 0 ? asked + " answers are as due" : wrong + " answers are not as due");
        if (wrong != 0) {
            System.exit(1);
        }
    }

    /** Wells of all kinds at one place, well k of kind k, with REST 0. */
    static WellField ofAllKinds() {
        WellField x = new WellField();
        for (int kind = 0; kind < 6; kind++) {
            x.well(kind, 10, 10, 0);
        }
        return x;
    }
}
