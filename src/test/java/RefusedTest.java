/**
 * Each finding but a plain BEYOND of ArgumentsTest, alone and where two would be due at once: the one that is asked
 * first is answered, told(3) counts it, and later calls tell that nothing changed.
 */
final class RefusedTest {
    public static void main(String[] args) {
        wells();
        tables();
        sheets();
        copies();
        draws();
        drawsOfNumbers();
        heads();
        licences();
        served();
        guards();
        moves();
        readings();
        whole();
        Check.finish();
    }

    private static void wells() {
        Refused.due(Fields.FULL, "well: an eleventh", Check.FULL, x -> x.well(0, 0, 0, 0));
        Refused.due(Fields.FULL, "well: kind ahead of FULL", Check.BEYOND, x -> x.well(6, 0, 0, 0));
        Refused.due(Fields.FULL, "well: x ahead of FULL", Check.BEYOND, x -> x.well(0, 31, 0, 0));
        Refused.due(Fields.FULL, "well: y ahead of FULL", Check.BEYOND, x -> x.well(0, 0, -1, 0));
        Refused.due(Fields.FULL, "well: rest ahead of FULL", Check.BEYOND, x -> x.well(0, 0, 0, 100001));
        for (int kind = 1; kind < 6; kind++) {
            int asked = kind;
            Refused.due(Fields.BUSY, "as(0, " + kind + ")", Check.KIND, x -> x.as(0, asked));
        }
        Refused.due(Fields.BUSY, "as(3, 4): a FILLING is no GUARD", Check.KIND, x -> x.as(3, 4));
        Refused.due(Fields.BUSY, "as(5, 3): a POST is no FILLING", Check.KIND, x -> x.as(5, 3));
        Refused.due(Fields.BUSY, "as(4, 5): a GUARD is no POST", Check.KIND, x -> x.as(4, 5));
        Refused.due(Fields.BUSY, "as(6, 1): no well ahead of KIND", Check.BEYOND, x -> x.as(6, 1));
        Refused.due(Fields.BUSY, "as(0, 6): no kind ahead of KIND", Check.BEYOND, x -> x.as(0, 6));
    }

    private static void tables() {
        Refused.due(Fields.BUSY, "table: above one less", Check.SIZE, x -> x.table(0, 1, 0, 101));
        Refused.due(Fields.BUSY, "table: above one less, the last", Check.SIZE, x -> x.table(0, 9, 0, 21));
        Refused.due(Fields.BUSY, "table: below one more", Check.SIZE, x -> x.table(0, 0, 0, 89));
        Refused.due(Fields.BUSY, "table: below one more, the last but one", Check.SIZE, x -> x.table(0, 8, 0, 9));
        Refused.due(Fields.BUSY, "table: above, in layer 1", Check.SIZE, x -> x.table(1, 9, 0, 11));
        Refused.due(Fields.BUSY, "table: below, in layer 1", Check.SIZE, x -> x.table(1, 8, 0, 4));
        Refused.due(Fields.BUSY, "table: above, at AGE 1", Check.SIZE, x -> x.table(0, 1, 1, 21));
        Refused.due(Fields.BUSY, "table: above, at AGE 11", Check.SIZE, x -> x.table(1, 1, 11, 1));
        Refused.due(Fields.BUSY, "table: 1001 ahead of SIZE", Check.BEYOND, x -> x.table(0, 5, 0, 1001));
        Refused.due(Fields.BUSY, "table: -1 ahead of SIZE", Check.BEYOND, x -> x.table(0, 5, 0, -1));
        Refused.due(Fields.BUSY, "table: layer ahead of SIZE", Check.BEYOND, x -> x.table(2, 5, 0, 1000));
        Refused.due(Fields.BUSY, "table: distance 10 ahead of SIZE", Check.BEYOND, x -> x.table(0, 10, 0, 1000));
        Refused.due(Fields.BUSY, "table: age ahead of SIZE", Check.BEYOND, x -> x.table(0, 5, 12, 1000));
    }

    private static void sheets() {
        Refused.due(Fields.BUSY, "sheet: SIZE", Check.SIZE, x -> x.sheet(0, 2, -1));
        Refused.due(Fields.BUSY, "sheet: too many", Check.BEYOND, x -> x.sheet(0, 2, 25));
        Refused.due(Fields.BUSY, "sheet: no sheet ahead of SIZE", Check.BEYOND, x -> x.sheet(4, 1, -1));
        Refused.due(Fields.BUSY, "sheet: no kind ahead of SIZE", Check.BEYOND, x -> x.sheet(0, 3, -1));
        Refused.due(Fields.BUSY, "put: MISSING", Check.MISSING, x -> x.put(2, 0, 1));
        Refused.due(Fields.EMPTY, "put: MISSING at first", Check.MISSING, x -> x.put(0, 0, 1));
        Refused.due(Fields.BUSY, "put: no such number", Check.BEYOND, x -> x.put(0, 4, 1));
        Refused.due(Fields.BUSY, "put: no such number of floats", Check.BEYOND, x -> x.put(1, 2, 1));
        Refused.due(Fields.BUSY, "put: no sheet ahead of no number", Check.BEYOND, x -> x.put(4, -1, 1));
        Refused.due(Fields.BUSY, "put: MISSING ahead of number -1", Check.MISSING, x -> x.put(2, -1, 1));
        Refused.due(Fields.BUSY, "put: MISSING ahead of number 24", Check.MISSING, x -> x.put(2, 24, 1));
    }

    private static void copies() {
        Refused.due(Fields.BUSY, "copy: from a MISSING one", Check.MISSING, x -> x.copy(2, 0, 0, 0, 0));
        Refused.due(Fields.BUSY, "copy: to a MISSING one", Check.MISSING, x -> x.copy(0, 0, 2, 0, 0));
        Refused.due(Fields.BUSY, "copy: a MISSING one to itself", Check.MISSING, x -> x.copy(2, 0, 2, 0, 0));
        Refused.due(Fields.EMPTY, "copy: both are MISSING", Check.MISSING, x -> x.copy(0, 0, 1, 0, 0));
        Refused.due(Fields.BUSY, "copy: KIND", Check.KIND, x -> x.copy(0, 0, 1, 0, 1));
        Refused.due(Fields.BUSY, "copy: KIND, the other way", Check.KIND, x -> x.copy(1, 0, 0, 0, 1));
        Refused.due(Fields.BUSY, "copy: KIND of none", Check.KIND, x -> x.copy(0, 0, 1, 0, 0));
        Refused.due(Fields.BUSY, "copy: the first has not so many", Check.BEYOND, x -> x.copy(1, 0, 3, 0, 3));
        Refused.due(Fields.BUSY, "copy: the second has not so many", Check.BEYOND, x -> x.copy(3, 0, 1, 0, 3));
        Refused.due(Fields.BUSY, "copy: not so many from one on", Check.BEYOND, x -> x.copy(1, 1, 3, 0, 2));
        Refused.due(Fields.BUSY, "copy: not so many to one on", Check.BEYOND, x -> x.copy(3, 0, 1, 1, 2));
        Refused.due(Fields.BUSY, "copy: no sheet ahead of MISSING", Check.BEYOND, x -> x.copy(4, 0, 2, 0, 1));
        Refused.due(Fields.BUSY, "copy: no second sheet ahead of MISSING", Check.BEYOND, x -> x.copy(2, 0, 4, 0, 1));
        Refused.due(Fields.BUSY, "copy: MISSING ahead of n", Check.MISSING, x -> x.copy(0, 0, 2, 0, -1));
        Refused.due(Fields.BUSY, "copy: MISSING ahead of from", Check.MISSING, x -> x.copy(2, -1, 0, 0, 1));
        Refused.due(Fields.BUSY, "copy: KIND ahead of n", Check.KIND, x -> x.copy(0, 0, 1, 0, 25));
        Refused.due(Fields.BUSY, "copy: KIND ahead of from", Check.KIND, x -> x.copy(0, -1, 1, 0, 1));
        Refused.due(Fields.BUSY, "copy: KIND ahead of to", Check.KIND, x -> x.copy(0, 0, 1, Integer.MAX_VALUE, 1));
    }

    private static void draws() {
        Refused.due(Fields.BUSY, "draws: a POST", Check.KIND, x -> x.draws(5, 0, 0));
        Refused.due(Fields.BUSY, "draws: MISSING", Check.MISSING, x -> x.draws(0, 0, 2));
        Refused.due(Fields.BUSY, "draws: NO_NUMBER", Check.NO_NUMBER, x -> x.draws(0, 0, 3));
        Refused.due(Fields.BUSY, "draws: above 1000", Check.BEYOND, x -> x.draws(0, 0, 1));
        Refused.due(Fields.BUSY, "draws: below 0", Check.BEYOND, x -> x.draws(0, 23, 3));
        Refused.due(Fields.BUSY, "draws: no well ahead of MISSING", Check.BEYOND, x -> x.draws(6, 0, 2));
        Refused.due(Fields.BUSY, "draws: no month ahead of KIND", Check.BEYOND, x -> x.draws(5, 24, 0));
        Refused.due(Fields.BUSY, "draws: no sheet ahead of KIND", Check.BEYOND, x -> x.draws(5, 0, 4));
        Refused.due(Fields.BUSY, "draws: no month ahead of MISSING", Check.BEYOND, x -> x.draws(0, -1, 2));
        Refused.due(Fields.BUSY, "draws: no month ahead of NO_NUMBER", Check.BEYOND, x -> x.draws(0, 24, 3));
        Refused.due(Fields.BUSY, "draws: KIND ahead of MISSING", Check.KIND, x -> x.draws(5, 0, 2));
        Refused.due(Fields.BUSY, "draws: KIND ahead of NO_NUMBER", Check.KIND, x -> x.draws(5, 0, 3));
        Refused.due(Fields.BUSY, "draws: KIND ahead of above 1000", Check.KIND, x -> x.draws(5, 0, 1));
        Refused.due(Fields.BUSY, "draw: a POST", Check.KIND, x -> x.draw(5, 0, 0));
        Refused.due(Fields.BUSY, "draw: no month ahead of KIND", Check.BEYOND, x -> x.draw(5, 24, 0));
        Refused.due(Fields.BUSY, "draw: 1001 ahead of KIND", Check.BEYOND, x -> x.draw(5, 0, 1001));
        Refused.due(Fields.BUSY, "draw: -1 ahead of KIND", Check.BEYOND, x -> x.draw(5, 0, -1));
    }

    /** A number that is none is asked ahead of those too small or too great, wherever it stands. */
    private static void drawsOfNumbers() {
        Refused.due(Fields.YOUNG, "draws: the last is none", Check.NO_NUMBER, x -> x.draws(0, 21, 0));
        Refused.due(Fields.YOUNG, "draws: none behind one below 0", Check.NO_NUMBER, x -> x.draws(0, 21, 1));
        Refused.due(Fields.YOUNG, "draws: none ahead of one above 1000", Check.NO_NUMBER, x -> x.draws(0, 21, 2));
        Refused.due(Fields.YOUNG, "draws: the first alone is none", Check.NO_NUMBER, x -> x.draws(0, 23, 2));
        Refused.due(Fields.YOUNG, "draws: none is not needed, one below 0 is", Check.BEYOND, x -> x.draws(0, 22, 1));
        Refused.due(Fields.YOUNG, "draws: the last are no draws", Check.BEYOND, x -> x.draws(0, 21, 3));
        Refused.due(Fields.YOUNG, "draws: the second is no draw", Check.BEYOND, x -> x.draws(0, 22, 3));
        int[][] taken = {{22, 0, 2}, {23, 0, 1}, {23, 3, 1}};
        for (int[] draws : taken) {
            WellField x = Fields.YOUNG.make();
            String call = "draws: from " + draws[0] + " sheet " + draws[1];
            Check.due(call + ", what can't be drawn is not needed", x.draws(0, draws[0], draws[1]), draws[2]);
        }
    }

    private static void heads() {
        Refused.due(Fields.BUSY, "most: none is above 0", Check.NONE, x -> x.most(0, 0));
        Refused.due(Fields.BUSY, "most: no month ahead of NONE", Check.BEYOND, x -> x.most(0, -1));
        Refused.due(Fields.BUSY, "most: no well ahead of NONE", Check.BEYOND, x -> x.most(6, 0));
        Refused.due(Fields.BUSY, "when: it never is", Check.NONE, x -> x.when(5, 0));
        Refused.due(Fields.BUSY, "when: no month ahead of NONE", Check.BEYOND, x -> x.when(5, 24));
        Refused.due(Fields.BUSY, "when: no well ahead of NONE", Check.BEYOND, x -> x.when(-1, 0));
    }

    private static void licences() {
        for (int well = 3; well < 6; well++) {
            int kind = well;
            Refused.due(Fields.BUSY, "licence: of kind " + kind, Check.KIND, x -> x.licence(kind, 1, 1));
            Refused.due(Fields.BUSY, "licence: age ahead of KIND", Check.BEYOND, x -> x.licence(kind, -1, 1));
            Refused.due(Fields.BUSY, "licence: amount ahead of KIND", Check.BEYOND, x -> x.licence(kind, 1, 1001));
        }
        Refused.due(Fields.FULL, "licence: an eleventh", Check.FULL, x -> x.licence(0, 1, 1));
        Refused.due(Fields.FULL, "licence: KIND ahead of FULL", Check.KIND, x -> x.licence(9, 1, 1));
        Refused.due(Fields.FULL, "licence: age ahead of FULL", Check.BEYOND, x -> x.licence(0, 10000, 1));
        Refused.due(Fields.FULL, "licence: amount ahead of FULL", Check.BEYOND, x -> x.licence(0, 1, -1));
        Refused.due(Fields.FULL, "licence: no well ahead of FULL", Check.BEYOND, x -> x.licence(10, 1, 1));
        Refused.due(Fields.FULL, "licence: age ahead of KIND and FULL", Check.BEYOND, x -> x.licence(8, -1, 1));
    }

    private static void served() {
        Refused.due(Fields.BUSY, "served: it came behind that", Check.NONE, x -> x.served(3, false));
        Refused.due(Fields.BUSY, "served: it came behind that, lacks", Check.NONE, x -> x.served(3, true));
        Refused.due(Fields.BUSY, "serve: no month changes what was served", Check.BEYOND, x -> x.serve(24));
        Refused.due(Fields.BUSY, "serve: month -1", Check.BEYOND, x -> x.serve(-1));
        Refused.due(Fields.YOUNG, "served: there was none", Check.NONE, x -> x.served(0, false));
        Refused.due(Fields.YOUNG, "served: there was none, lacks", Check.NONE, x -> x.served(0, true));
    }

    private static void guards() {
        for (int well = 0; well < 6; well++) {
            if (well != 4) {
                int kind = well;
                Refused.due(Fields.BUSY, "hold: of kind " + kind, Check.KIND, x -> x.hold(kind, 0, 0));
                Refused.due(Fields.BUSY, "hold: KIND ahead of NONE, " + kind, Check.KIND, x -> x.hold(kind, 2, 100000));
                Refused.due(Fields.BUSY, "hold: head ahead of KIND", Check.BEYOND, x -> x.hold(kind, 0, 100001));
                Refused.due(Fields.BUSY, "hold: month ahead of KIND", Check.BEYOND, x -> x.hold(kind, 24, 0));
            }
        }
        Refused.due(Fields.YOUNG, "hold: even 1000 is too little", Check.NONE, x -> x.hold(1, 3, 100000));
        Refused.due(Fields.YOUNG, "hold: and in month 23", Check.NONE, x -> x.hold(1, 23, 100000));
        Refused.due(Fields.YOUNG, "hold: head ahead of NONE", Check.BEYOND, x -> x.hold(1, 3, 100001));
        Refused.due(Fields.YOUNG, "hold: month ahead of NONE", Check.BEYOND, x -> x.hold(1, 24, 100000));
    }

    private static void moves() {
        for (int well = 0; well < 6; well++) {
            int same = well;
            Refused.due(Fields.BUSY, "move: the same, " + well, Check.BEYOND, x -> x.move(same, 3, same));
        }
        for (int well = 3; well < 6; well++) {
            int kind = well;
            Refused.due(Fields.BUSY, "move: from kind " + kind, Check.KIND, x -> x.move(0, 3, kind));
            Refused.due(Fields.BUSY, "move: to kind " + kind, Check.KIND, x -> x.move(kind, 3, 0));
            Refused.due(Fields.BUSY, "move: month ahead of KIND", Check.BEYOND, x -> x.move(kind, 24, 0));
            Refused.due(Fields.BUSY, "move: no well ahead of KIND", Check.BEYOND, x -> x.move(kind, 3, 6));
            Refused.due(Fields.BUSY, "move: to no well ahead of KIND", Check.BEYOND, x -> x.move(-1, 3, kind));
        }
        Refused.due(Fields.BUSY, "move: both are of a wrong kind", Check.KIND, x -> x.move(3, 3, 4));
    }

    private static void readings() {
        Refused.due(Fields.FULL, "read: there are 40 others", Check.FULL, x -> x.read(0, 0, 0));
        Refused.due(Fields.FULL, "read: v ahead of FULL", Check.BEYOND, x -> x.read(0, 0, 100000001));
        Refused.due(Fields.FULL, "read: month ahead of FULL", Check.BEYOND, x -> x.read(0, 24, 0));
        Refused.due(Fields.FULL, "read: no well ahead of FULL", Check.BEYOND, x -> x.read(10, 0, 0));
        Refused.due(Fields.FULL, "read: v in place of an older one", Check.BEYOND, x -> x.read(0, 20, -100000001));
        Refused.due(Fields.BUSY, "differ: nothing was read", Check.NONE, x -> x.differ(1, 5));
        Refused.due(Fields.BUSY, "differ: month ahead of NONE", Check.BEYOND, x -> x.differ(1, 24));
        Refused.due(Fields.BUSY, "differ: no well ahead of NONE", Check.BEYOND, x -> x.differ(6, 4));
        Refused.due(Fields.EMPTY, "fit: no readings", Check.NONE, x -> x.fit(0, 0));
        Refused.due(Fields.EMPTY, "fit: layer ahead of NONE", Check.BEYOND, x -> x.fit(2, 0));
        Refused.due(Fields.EMPTY, "fit: age ahead of NONE", Check.BEYOND, x -> x.fit(0, 12));
        Refused.due(Fields.BUSY, "fit: layer", Check.BEYOND, x -> x.fit(-1, 0));
        Refused.due(Fields.BUSY, "fit: age", Check.BEYOND, x -> x.fit(1, -1));
    }

    private static void whole() {
        Refused.due(Fields.EMPTY, "back: nothing is kept", Check.NONE, x -> x.back());
        Refused.due(Fields.EMPTY, "told(4)", Check.BEYOND, x -> x.told(4));
        Refused.due(Fields.BUSY, "told(-1)", Check.BEYOND, x -> x.told(-1));
    }
}
