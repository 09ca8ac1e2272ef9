import java.util.function.Supplier;

/**
 * Objects in states that the tests of edges and of refused calls begin with. Each is made by few calls, so that
 * some 300 more may follow before the 512th.
 */
enum Fields {
    /** Nothing was ever told. */
    EMPTY(WellField::new),
    /** Something of all, nothing full, and what is kept differs from what is. */
    BUSY(Fields::busy),
    /** A licence that was never served, a GUARD that can't hold much, and sheets with what can't be drawn. */
    YOUNG(Fields::young),
    /** As many wells, licences, readings and numbers of sheets as there may be. */
    FULL(Fields::full);

    private final Supplier<WellField> maker;

    Fields(Supplier<WellField> maker) {
        this.maker = maker;
    }

    WellField make() {
        return maker.get();
    }

    /** Six wells, well k of kind k, three of them with licences; sheet 2 is MISSING, and number 1 of sheet 3 none. */
    private static WellField busy() {
        WellField x = new WellField();
        for (int kind = 0; kind < 6; kind++) {
            x.well(kind, kind, 2 * kind, 20000 + kind);
            x.limit(kind, 100 * kind);
        }
        x.draw(0, 2, 9);
        x.rain(1, 6);
        x.licence(2, 7, 30);
        x.read(1, 4, 500);
        x.keep();
        x.limit(4, 90);
        x.draw(0, 3, 11);
        x.draw(3, 3, 4);
        x.draw(4, 20, 5);
        x.rain(4, 3);
        x.table(0, 0, 1, 20);
        x.table(1, 0, 1, 10);
        x.rainTable(2, 5);
        x.licence(0, 9, 200);
        x.licence(1, 7, 100);
        x.serve(5);
        x.licence(0, 3, 40);
        x.read(0, 3, -700);
        x.read(5, 23, 8);
        busySheets(x);
        return x;
    }

    private static void busySheets(WellField x) {
        x.sheet(0, 1, 4);
        for (int i = 0; i < 4; i++) {
            x.put(0, i, 10 + i);
        }
        x.sheet(1, 2, 2);
        x.put(1, 0, Float.floatToIntBits(3.5f));
        x.put(1, 1, Float.floatToIntBits(1001f));
        x.sheet(3, 2, 3);
        x.put(3, 0, Float.floatToIntBits(-1f));
        x.put(3, 1, Float.floatToIntBits(Float.NaN));
        x.put(3, 2, Float.floatToIntBits(2.5f));
    }

    /** Well 0 and GUARD 1; each sheet has three floats. */
    private static WellField young() {
        float[][] rows = {{0f, 7f, Float.NaN}, {-1f, 7f, Float.NaN}, {Float.NaN, 1001f, 7f}, {7f, 1001f, -1f}};
        WellField x = new WellField();
        x.well(0, 1, 1, 500);
        x.well(4, 1, 1, -1);
        x.licence(0, 5, 10);
        x.draw(0, 21, 9);
        x.draw(0, 22, 8);
        x.draw(1, 3, 444);
        x.keep();
        x.draw(0, 23, 6);
        x.draw(1, 4, 445);
        for (int s = 0; s < 4; s++) {
            x.sheet(s, 2, 3);
            for (int i = 0; i < 3; i++) {
                x.put(s, i, Float.floatToIntBits(rows[s][i]));
            }
        }
        return x;
    }

    /** Ten wells, well 8 a GUARD and well 9 a POST, and wells 0 to 7 may have licences. */
    private static WellField full() {
        WellField x = new WellField();
        for (int well = 0; well < 10; well++) {
            x.well(well < 8 ? well % 3 : well - 4, 3 * well, 30 - 3 * well, 1000 * well);
            x.limit(well, -10 * well);
        }
        for (int i = 0; i < 10; i++) {
            x.licence(i % 8, 50 - i, 100 + i);
        }
        x.serve(2);
        for (int i = 0; i < 40; i++) {
            x.read(i % 10, 20 + i / 10, 7 * i);
        }
        for (int s = 0; s < 4; s++) {
            x.sheet(s, 1, 24);
            x.put(s, 0, 40 + s);
            x.put(s, 23, 50 + s);
        }
        x.keep();
        return x;
    }
}
