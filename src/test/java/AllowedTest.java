/** Promises 25 to 30: free, licence, serve, served, hold, move. */
final class AllowedTest {
    public static void main(String[] args) {
        free();
        freeOfLow();
        freeOfPaired();
        licence();
        serve();
        serveByAge();
        serveTillFull();
        servePaired();
        served();
        hold();
        holdFindings();
        move();
        moveByAges();
        moveOfPaired();
        moveFindings();
        Check.finish();
    }

    private static void free() {
        WellField x = new WellField();
        x.well(0, 0, 0, 1050);
        Check.due("free: till the limit at first", x.free(0, 0), 1000);
        x.limit(0, 0);
        Check.due("free: cut", x.free(0, 0), 10);
        x.draw(0, 12, 3);
        Check.due("free: on top of what it drew", x.free(0, 0), 7);
        Check.due("free: behind that", x.free(0, 13), 10);
        x.draw(0, 12, 0);
        x.table(0, 0, 1, 50 + 50);
        Check.due("free: two months add up", x.free(0, 0), 5);
        Check.due("free: the last month alone", x.free(0, 23), 10);
        x.well(5, 3, 0, 100);
        x.limit(1, 30);
        Check.due("free: another well is the tightest", x.free(0, 0), 1);
        x.limit(1, 100);
        Check.due("free: another well has nothing left", x.free(0, 0), 0);
        Check.due("free: of a POST", x.free(1, 0), 0);
        WellField kinds = Check.ofAllKinds();
        int[] due = {1000, 1000, 1000, 0, 0, 0};
        for (int well = 0; well < 6; well++) {
            Check.due("free: of kind " + well, kinds.free(well, 0), due[well]);
        }
        Check.due("free: no well", x.free(2, 0), Check.BEYOND);
        Check.due("free: well -1", x.free(-1, 0), Check.BEYOND);
        Check.due("free: month 24", x.free(0, 24), Check.BEYOND);
        Check.due("free: month -1", x.free(1, -1), Check.BEYOND);
        Check.due("free: draws stay", x.of(0, 5), 0);
        WellField old = new WellField();
        old.well(0, 0, 0, 1200);
        old.limit(0, 0);
        old.table(0, 0, 11, 1);
        Check.due("free: age 11 adds 1", old.free(0, 12), 1200 / 101);
        Check.due("free: age 11 is behind month 23", old.free(0, 13), 12);
    }

    private static void freeOfLow() {
        WellField x = new WellField();
        x.well(0, 0, 0, 0);
        x.well(5, 9, 9, 0);
        x.limit(1, 1);
        Check.due("free: one that is LOW may not fall", x.free(0, 0), 0);
        x.table(0, 9, 0, 0);
        Check.due("free: one that is LOW is not reached", x.free(0, 0), 1000);
        x.limit(0, 100);
        x.rain(23, 10);
        Check.due("free: it is LOW itself ahead of month 23", x.free(0, 22), 0);
        Check.due("free: as the limit", x.free(0, 23), 0);
        x.rain(23, 20);
        Check.due("free: in month 23 alone", x.free(0, 23), 1);
        x.limit(0, -100000);
        x.draw(0, 5, 1000);
        Check.due("free: whatever it drew, as the limit then", x.free(0, 0), 0);
        x.table(0, 0, 0, 90);
        Check.due("free: whatever it drew", x.free(0, 0), 10000 / 90);
    }

    private static void freeOfPaired() {
        WellField x = new WellField();
        x.well(2, 0, 0, 1000);
        x.well(2, 0, 0, 1000);
        x.limit(0, 0);
        x.limit(1, 0);
        x.table(0, 0, 1, 100);
        Check.due("free: its own months do not meet at age 1", x.free(0, 0), 10);
        x.table(0, 0, 2, 100);
        Check.due("free: they meet at age 2", x.free(0, 0), 5);
        Check.due("free: no own month is left", x.free(0, 23), 1000);
        Check.due("free: the last is its own", x.free(1, 23), 10);
        x.draw(0, 23, 1000);
        Check.due("free: what does not count is not asked", x.free(1, 23), 10);
    }

    private static void licence() {
        WellField x = Check.ofAllKinds();
        Check.due("licence: no well", x.licence(6, 0, 0), Check.BEYOND);
        Check.due("licence: well -1", x.licence(-1, 0, 0), Check.BEYOND);
        Check.due("licence: age -1", x.licence(5, -1, 0), Check.BEYOND);
        Check.due("licence: age 10000", x.licence(5, 10000, 0), Check.BEYOND);
        Check.due("licence: amount -1", x.licence(5, 0, -1), Check.BEYOND);
        Check.due("licence: amount 1001", x.licence(5, 0, 1001), Check.BEYOND);
        for (int well = 3; well < 6; well++) {
            Check.due("licence: of kind " + well, x.licence(well, 0, 0), Check.KIND);
        }
        for (int i = 0; i < 10; i++) {
            Check.due("licence: " + i, x.licence(i % 3, i % 2 == 0 ? 0 : 9999, i % 2 == 0 ? 1000 : 0), i);
        }
        Check.due("licence: an eleventh", x.licence(0, 0, 0), Check.FULL);
        Check.due("licence: KIND ahead of FULL", x.licence(3, 0, 0), Check.KIND);
        Check.due("licence: BEYOND ahead of FULL", x.licence(0, 10000, 0), Check.BEYOND);
        Check.due("licence: still 10", x.told(1), 10);
    }

    private static void serve() {
        WellField x = new WellField();
        x.well(0, 0, 0, 10000);
        x.well(0, 20, 20, 10000);
        x.well(0, 0, 20, 10000);
        x.limit(0, 0);
        for (int month = 0; month < 24; month++) {
            x.draw(0, month, 50);
            x.draw(2, month, 50);
        }
        Check.due("serve: no licence", x.serve(0), 0);
        Check.due("serve: nothing changed", x.of(0, 5), 1200);
        x.licence(0, 5, 30);
        Check.due("serve: month 24", x.serve(24), Check.BEYOND);
        Check.due("serve: month -1", x.serve(-1), Check.BEYOND);
        Check.due("serve: served of none", x.served(0, false), Check.NONE);
        Check.due("serve: one", x.serve(4), 30);
        Check.due("serve: ahead stays", x.draw(0, 3, 50), 50);
        Check.due("serve: from that month on", x.draw(0, 4, 30), 30);
        Check.due("serve: till the end", x.draw(0, 23, 30), 30);
        Check.due("serve: sum", x.of(0, 5), 4 * 50 + 20 * 30);
        Check.due("serve: wells without one stay", x.of(2, 5), 1200);
        Check.due("serve: again is the same", x.serve(4), 30);
        Check.due("serve: again the same sum", x.of(0, 5), 800);
        x.licence(0, 6, 200);
        Check.due("serve: what is FREE", x.serve(4), 95);
        Check.due("serve: the older has all", x.served(0, true), 0);
        Check.due("serve: the younger what was left", x.served(1, false), 65);
        Check.due("serve: it lacks", x.served(1, true), 135);
        Check.due("serve: one of the old months counts, too", x.serve(0), 95);
    }

    private static void serveByAge() {
        WellField x = new WellField();
        x.well(0, 0, 0, 1000);
        x.well(0, 0, 0, 1000);
        x.limit(0, 0);
        x.licence(0, 10, 4);
        x.licence(1, 9, 4);
        x.licence(0, 9, 4);
        x.licence(1, 10, 4);
        Check.due("serve: all together", x.serve(0), 10);
        int[] due = {2, 4, 4, 0};
        for (int i = 0; i < 4; i++) {
            Check.due("serve: licence " + i, x.served(i, false), due[i]);
            Check.due("serve: licence " + i + " lacks", x.served(i, true), 4 - due[i]);
        }
        Check.due("serve: draws of 0", x.draw(0, 9, 0), 6);
        Check.due("serve: draws of 1", x.draw(1, 9, 0), 4);
    }

    private static void serveTillFull() {
        WellField x = new WellField();
        x.well(0, 0, 0, 0);
        for (int distance = 9; distance >= 0; distance--) {
            x.table(0, distance, 0, 0);
        }
        x.licence(0, 1, 700);
        x.licence(0, 2, 200);
        x.licence(0, 3, 400);
        x.licence(0, 4, 5);
        Check.due("serve: not above 1000 in all", x.serve(1), 1000);
        Check.due("serve: what was left of 1000", x.served(2, false), 100);
        Check.due("serve: lacks", x.served(2, true), 300);
        Check.due("serve: nothing was left", x.served(3, false), 0);
        Check.due("serve: the draw", x.draw(0, 23, 0), 1000);
        Check.due("serve: month 0 is not told", x.draw(0, 0, 0), 0);
    }

    private static void servePaired() {
        WellField x = new WellField();
        x.well(2, 0, 0, 1000);
        x.well(2, 0, 0, 1000);
        for (int month = 0; month < 24; month++) {
            x.draw(0, month, 9);
            x.draw(1, month, 9);
        }
        x.licence(0, 1, 5);
        x.licence(0, 2, 6);
        Check.due("serve: paired", x.serve(10), 11);
        Check.due("serve: its own month", x.draw(0, 10, 11), 11);
        Check.due("serve: not its own becomes 0", x.draw(0, 11, 0), 0);
        Check.due("serve: ahead stays", x.of(0, 5), 10 * 9 + 7 * 11);
        Check.due("serve: the other one stays", x.of(1, 5), 24 * 9);
        Check.due("serve: no own month is left", x.serve(23), 11);
        Check.due("serve: draws then", x.draw(0, 23, 0), 0);
        Check.due("serve: draws ahead", x.draw(0, 22, 0), 11);
    }

    private static void served() {
        WellField x = new WellField();
        x.well(0, 0, 0, 0);
        Check.due("served: no licence", x.served(0, true), Check.BEYOND);
        x.licence(0, 3, 8);
        Check.due("served: there was no serve", x.served(0, false), Check.NONE);
        Check.due("served: there was no serve, lacks", x.served(0, true), Check.NONE);
        x.serve(3);
        x.licence(0, 2, 9);
        Check.due("served: behind the latest", x.served(1, false), Check.NONE);
        Check.due("served: ahead of it", x.served(0, false), 8);
        x.serve(24);
        Check.due("served: a finding serves none", x.served(1, true), Check.NONE);
        x.dry();
        Check.due("served: what was told stays", x.served(0, false), 8);
        x.serve(3);
        Check.due("served: by the next", x.served(1, false), 9);
        for (int licence : Check.NEVER) {
            Check.due("served: licence " + licence, x.served(licence, false), Check.BEYOND);
        }
        Check.due("served: licence 2", x.served(2, true), Check.BEYOND);
    }

    private static void hold() {
        WellField x = new WellField();
        x.well(4, 0, 0, 50);
        x.well(0, 1, 0, 0);
        Check.due("hold: nothing is needed", x.hold(0, 3, 50), 0);
        Check.due("hold: rounds up", x.hold(0, 3, 51), 1);
        Check.due("hold: it drew 1", x.draw(0, 3, 700), 1);
        Check.due("hold: what it drew does not count", x.hold(0, 3, 250), 2);
        Check.due("hold: less again", x.hold(0, 3, -100000), 0);
        x.draw(1, 3, 10);
        Check.due("hold: others as they are", x.hold(0, 3, 50), 9);
        Check.due("hold: the head then", x.head(0, 3), 50);
        x.table(0, 0, 1, 30);
        Check.due("hold: its own older draws help", x.hold(0, 4, 350), 1);
        x.draw(0, 4, 0);
        x.rain(4, 10);
        Check.due("hold: rain helps", x.hold(0, 4, 420), 0);
        Check.due("hold: rain helps, one more", x.hold(0, 4, 421), 1);
        x.dry();
        Check.due("hold: 1000 is enough", x.hold(0, 0, 100000), 1000);
        x.draw(1, 0, 1);
        Check.due("hold: 1000 is too little", x.hold(0, 0, 100000), Check.NONE);
        Check.due("hold: nothing changed", x.draw(0, 0, 0), 1000);
    }

    private static void holdFindings() {
        WellField x = Check.ofAllKinds();
        Check.due("hold: no well", x.hold(6, 0, 0), Check.BEYOND);
        Check.due("hold: well -1", x.hold(-1, 0, 0), Check.BEYOND);
        Check.due("hold: month 24", x.hold(0, 24, 0), Check.BEYOND);
        Check.due("hold: month -1", x.hold(0, -1, 0), Check.BEYOND);
        Check.due("hold: head 100001", x.hold(0, 0, 100001), Check.BEYOND);
        Check.due("hold: head -100001", x.hold(0, 0, -100001), Check.BEYOND);
        for (int well = 0; well < 6; well++) {
            Check.due("hold: of kind " + well, x.hold(well, 0, 0), well == 4 ? 0 : Check.KIND);
        }
        for (int distance = 9; distance >= 0; distance--) {
            x.table(0, distance, 0, 0);
        }
        x.draw(4, 0, 7);
        Check.due("hold: no draw helps", x.hold(4, 0, 1), Check.NONE);
        x.table(0, 0, 0, 1);
        Check.due("hold: a table's number of 1", x.hold(4, 0, 7), 7);
        x.table(0, 0, 0, 0);
        Check.due("hold: nothing changed", x.of(4, 5), 7);
        Check.due("hold: none is needed", x.hold(4, 0, 0), 0);
        Check.due("hold: it became 0", x.of(4, 5), 0);
    }

    private static void move() {
        WellField x = new WellField();
        x.well(0, 0, 0, 0);
        x.well(0, 4, 0, 0);
        x.draw(0, 3, 100);
        x.draw(1, 3, 20);
        Check.due("move: its own head is the tightest", x.move(1, 3, 0), 20 + 100 * 60 / 100);
        Check.due("move: it draws that", x.draw(1, 3, 80), 80);
        Check.due("move: the other draws nothing", x.draw(0, 3, 100), 0);
        x.draw(1, 3, 0);
        x.well(5, 8, 0, 0);
        Check.due("move: a post behind it is the tightest", x.move(1, 3, 0), 100 * 20 / 60);
        x.dry();
        x.draw(0, 3, 100);
        x.draw(1, 3, 7);
        x.table(0, 0, 5, 10);
        Check.due("move: an older age is the tightest", x.move(1, 3, 0), 7);
        x.dry();
        x.draw(0, 18, 10);
        Check.due("move: month 23 is asked", x.move(1, 18, 0), 0);
        x.draw(0, 19, 10);
        Check.due("move: behind month 23 nothing is asked", x.move(1, 19, 0), 3);
        x.dry();
        x.draw(0, 0, 1000);
        x.draw(1, 0, 1000);
        Check.due("move: not above 1000", x.move(1, 0, 0), 1000);
        Check.due("move: of nothing", x.move(1, 0, 0), 1000);
        Check.due("move: nothing to nothing", x.move(1, 1, 0), 0);
    }

    private static void moveByAges() {
        WellField x = new WellField();
        x.well(0, 0, 0, 0);
        x.well(0, 1, 0, 0);
        x.table(0, 0, 2, 80);
        x.table(0, 1, 2, 40);
        x.draw(0, 5, 10);
        Check.due("move: half as much two months on", x.move(1, 5, 0), 5);
        WellField one = new WellField();
        one.well(0, 0, 0, 0);
        one.well(0, 1, 0, 0);
        one.table(0, 0, 1, 1);
        one.draw(0, 5, 10);
        one.draw(1, 5, 3);
        Check.due("move: a table's number of 1 holds, too", one.move(1, 5, 0), 3);
    }

    private static void moveOfPaired() {
        WellField x = new WellField();
        x.well(2, 0, 0, 0);
        x.well(0, 0, 0, 0);
        x.draw(0, 3, 500);
        x.draw(1, 3, 6);
        Check.due("move: from one whose draw does not count", x.move(1, 3, 0), 6);
        Check.due("move: that is 0 then", x.draw(0, 3, 0), 0);
        Check.due("move: to a month that does not count", x.move(0, 3, 1), 1000);
        Check.due("move: it is told so", x.draw(0, 3, 0), 1000);
        Check.due("move: that is 0", x.draw(1, 3, 0), 0);
        x.draw(1, 2, 6);
        Check.due("move: to its own month", x.move(0, 2, 1), 6);
        WellField flat = new WellField();
        flat.well(0, 0, 0, 0);
        flat.well(1, 0, 0, 0);
        for (int distance = 9; distance >= 0; distance--) {
            flat.table(0, distance, 0, 0);
            flat.table(1, distance, 0, 0);
        }
        Check.due("move: what lowers nothing", flat.move(0, 0, 1), 1000);
    }

    private static void moveFindings() {
        WellField x = Check.ofAllKinds();
        Check.due("move: no well", x.move(6, 0, 0), Check.BEYOND);
        Check.due("move: from no well", x.move(0, 0, 6), Check.BEYOND);
        Check.due("move: from -1", x.move(0, 0, -1), Check.BEYOND);
        Check.due("move: the same", x.move(3, 0, 3), Check.BEYOND);
        Check.due("move: month 24", x.move(3, 24, 4), Check.BEYOND);
        Check.due("move: month -1", x.move(3, -1, 4), Check.BEYOND);
        x.draw(3, 0, 1);
        for (int well = 0; well < 6; well++) {
            for (int from = 0; from < 6; from++) {
                if (well != from) {
                    int due = well < 3 && from < 3 ? 0 : Check.KIND;
                    Check.due("move(" + well + ", 0, " + from + ")", x.move(well, 0, from), due);
                }
            }
        }
        Check.due("move: findings changed nothing", x.of(3, 5), 1);
    }
}
