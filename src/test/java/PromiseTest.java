/** Each promise of the document by hand-made cases: ordinary inputs, edges, wrong inputs. */
public final class PromiseTest {
    private static final int LOW = Integer.MIN_VALUE;
    private static final int HIGH = Integer.MAX_VALUE;
    private static int wrong;
    private static int asked;

    private static void due(String what, int got, int want) {
        asked++;
        if (got != want) {
            wrong++;
            System.out.println(what + " answered " + got + ", due is " + want);
        }
    }

    /** A desk with stops that have no change and zone 0. */
    private static ConnectionDesk withStops(int stops) {
        ConnectionDesk x = new ConnectionDesk();
        for (int s = 0; s < stops; s++) {
            x.stop(0, 0);
        }
        return x;
    }

    /** A new trip; its calls in threes: stop, comes, leaves. */
    private static int addTrip(ConnectionDesk x, int kind, int seats, int... calls) {
        int trip = x.trip(kind, 127, seats);
        for (int k = 0; k + 2 < calls.length; k += 3) {
            due("call " + k / 3 + " of trip " + trip, x.call(trip, calls[k], calls[k + 1], calls[k + 2]), k / 3);
        }
        return trip;
    }

    private static void dueWay(String what, ConnectionDesk x, int i, int... fields) {
        for (int k = 0; k < fields.length; k++) {
            due(what + ": way(" + i + ", " + k + ")", x.way(i, k), fields[k]);
        }
    }

    private static void dueLeg(String what, ConnectionDesk x, int i, int k, int... fields) {
        for (int n = 0; n < fields.length; n++) {
            due(what + ": leg(" + i + ", " + k + ", " + n + ")", x.leg(i, k, n), fields[n]);
        }
    }

    private static void newObject() {
        ConnectionDesk x = new ConnectionDesk();
        for (int what = 0; what <= 6; what++) {
            due("1: count(" + what + ")", x.count(what), 0);
        }
        for (int a = 0; a < 4; a++) {
            for (int b = 0; b < 4; b++) {
                due("1: fare", x.fare(a, b, 0), 0);
            }
        }
        for (int d = 0; d < 100; d++) {
            due("1: kind of day " + d, x.day(d, d % 7), d % 7);
        }
        due("1: no stop", x.ways(0, 0, 0, 0), -2);
        due("1: no way", x.way(0, 0), -2);
        due("1: no ticket", x.still(0), -2);
        due("1: never met", x.met(), -1);
        due("1: nobody meets", x.meet(1, 0, 0), -2);
    }

    private static void stop() {
        ConnectionDesk x = new ConnectionDesk();
        int[][] refused = {{-1, 0}, {31, 0}, {0, -1}, {0, 4}, {LOW, 0}, {HIGH, 0}, {0, LOW}, {0, HIGH}};
        for (int[] r : refused) {
            due("2: refused stop", x.stop(r[0], r[1]), -2);
        }
        due("2: nothing changed", x.count(0), 0);
        for (int s = 0; s < 12; s++) {
            due("2: stop", x.stop(s % 2 * 30, s % 4), s);
        }
        due("2: the 13th", x.stop(0, 0), -2);
        due("2: all", x.count(0), 12);
    }

    private static void fare() {
        ConnectionDesk x = new ConnectionDesk();
        due("3: first", x.fare(0, 3, 9), 0);
        due("3: was", x.fare(0, 3, 0), 9);
        due("3: other direction", x.fare(3, 0, 4), 0);
        due("3: again", x.fare(0, 3, 1), 0);
        int[][] refused = {{-1, 0, 1}, {4, 0, 1}, {0, -1, 1}, {0, 4, 1}, {0, 3, -1}, {0, 3, 10}, {LOW, 0, 1}, {0, HIGH, 1}};
        for (int[] r : refused) {
            due("3: refused", x.fare(r[0], r[1], r[2]), -2);
        }
        due("3: stays", x.fare(0, 3, 1), 1);
        due("3: stays the other way", x.fare(3, 0, 4), 4);
    }

    private static void day() {
        ConnectionDesk x = withStops(2);
        x.trip(0, 1 << 6, 0);
        x.call(0, 0, 100, 100);
        x.call(0, 1, 110, 110);
        due("4: runs on kind 6 alone", x.ways(0, 1, 7, 0), 0);
        due("4: day 8 was", x.day(8, 6), 1);
        due("4: it is", x.day(8, 6), 6);
        due("4: runs on the next day", x.ways(0, 1, 7, 0), 1);
        due("4: that day", x.leg(0, 0, 6), 8);
        int[][] refused = {{-1, 0}, {100, 0}, {8, -1}, {8, 7}, {LOW, 1}, {HIGH, 1}, {8, LOW}, {8, HIGH}};
        for (int[] r : refused) {
            due("4: refused", x.day(r[0], r[1]), -2);
        }
        due("4: day 99", x.day(99, 0), 1);
        due("4: day 0", x.day(0, 3), 0);
        due("4: stays", x.day(8, 1), 6);
    }

    private static void trip() {
        ConnectionDesk x = withStops(2);
        int[][] refused = {{-1, 1, 0}, {3, 1, 1}, {0, 0, 0}, {0, 128, 0}, {0, 1, 1}, {0, 1, -1}, {1, 1, 0}, {1, 1, 51},
            {2, 1, 0}, {2, 1, 51}, {1, LOW, 1}, {2, HIGH, 1}, {1, 1, LOW}, {LOW, 1, 1}, {2, 127, HIGH}};
        for (int[] r : refused) {
            due("5: refused", x.trip(r[0], r[1], r[2]), -2);
        }
        due("5: none made", x.count(1), 0);
        due("5: ride", x.trip(0, 127, 0), 0);
        due("5: no calls", x.miss(0, 0, true), -2);
        due("5: reserved", x.trip(1, 1, 1), 1);
        due("5: night", x.trip(2, 64, 50), 2);
        for (int t = 3; t < 24; t++) {
            due("5: more", x.trip(0, 1, 0), t);
        }
        due("5: the 25th", x.trip(0, 1, 0), -2);
        due("5: all", x.count(1), 24);
        x.call(1, 0, 5, 5);
        x.call(1, 1, 6, 6);
        for (int d = 0; d < 14; d++) {
            due("5: bit 0 is kind 0, day " + d, x.table(0, d, 0, 0), d % 7 == 0 ? 1 : -1);
        }
    }

    private static void call() {
        ConnectionDesk x = withStops(2);
        x.trip(0, 127, 0);
        x.trip(1, 127, 1);
        x.trip(2, 127, 1);
        int[][] refused = {{-1, 0, 5, 5}, {3, 0, 5, 5}, {0, -1, 5, 5}, {0, 2, 5, 5}, {0, 0, -1, 5}, {0, 0, 5, 4},
            {0, 0, 5, 1440}, {1, 0, 5, 1440}, {2, 0, 5, 2880}, {0, 0, LOW, 5}, {0, 0, 5, HIGH}, {HIGH, 0, 5, 5}, {0, LOW, 5, 5}};
        for (int[] r : refused) {
            due("6: refused", x.call(r[0], r[1], r[2], r[3]), -2);
        }
        due("6: the whole day", x.call(0, 0, 0, 1439), 0);
        due("6: below when the one before leaves", x.call(0, 1, 1438, 1439), -2);
        due("6: just when it leaves", x.call(0, 1, 1439, 1439), 1);
        due("6: reserved to the end", x.call(1, 0, 1439, 1439), 0);
        due("6: night", x.call(2, 0, 0, 1440), 0);
        due("6: night to its end", x.call(2, 0, 2879, 2879), 1);
        for (int k = 2; k < 8; k++) {
            due("6: more", x.call(2, 1, 2879, 2879), k);
        }
        due("6: the 9th", x.call(2, 1, 2879, 2879), -2);
    }

    private static void miss() {
        ConnectionDesk x = withStops(3);
        addTrip(x, 0, 0, 0, 10, 10, 1, 20, 20, 2, 30, 30);
        due("7: was not", x.miss(0, 1, true), 0);
        due("7: was", x.miss(0, 1, true), 1);
        due("7: not to it", x.ways(0, 1, 0, 0), 0);
        due("7: not from it", x.ways(1, 2, 0, 0), 0);
        due("7: but through it", x.ways(0, 2, 0, 0), 1);
        due("7: not on the table", x.table(1, 0, 0, 0), -1);
        due("7: and back", x.miss(0, 1, false), 1);
        due("7: was not again", x.miss(0, 1, false), 0);
        due("7: to it again", x.ways(0, 1, 0, 0), 1);
        int[][] refused = {{-1, 0}, {1, 0}, {0, -1}, {0, 3}, {LOW, 0}, {0, HIGH}, {0, 32}, {0, 33}};
        for (int[] r : refused) {
            due("7: refused", x.miss(r[0], r[1], true), -2);
        }
        due("7: others stay", x.ways(0, 2, 0, 0), 1);
    }

    private static void walk() {
        ConnectionDesk x = withStops(3);
        int[][] refused = {{-1, 0, 5}, {0, -1, 5}, {3, 0, 5}, {0, 3, 5}, {1, 1, 5}, {0, 1, 0}, {0, 1, 241}, {0, 1, LOW}, {HIGH, 0, 5}};
        for (int[] r : refused) {
            due("8: refused", x.walk(r[0], r[1], r[2]), -2);
        }
        due("8: longest", x.walk(0, 1, 240), 0);
        due("8: from any time", x.ways(0, 1, 0, 77), 1);
        dueWay("8", x, 0, 77, 317, 0, 0, 1);
        dueLeg("8", x, 0, 0, 3, 0, 0, 1, 77, 317, -1, -1, -1);
        due("8: one direction", x.ways(1, 0, 0, 77), 0);
        for (int w = 1; w < 20; w++) {
            due("8: more", x.walk(0, 1, 1), w);
        }
        due("8: the 21st", x.walk(0, 1, 1), -2);
        due("8: all", x.count(2), 20);
        due("8: sooner", x.ways(0, 1, 0, 77), 1);
        dueLeg("8: the least of equals", x, 0, 0, 3, 1, 0, 1, 77, 78);
        due("8: at the end of the next day", x.ways(0, 1, 99, 1439), 1);
    }

    private static void shuttle() {
        ConnectionDesk x = withStops(2);
        x.walk(0, 1, 10);
        int[][] refused = {{-1, 0, 0, 1}, {1, 0, 0, 1}, {0, -1, 0, 1}, {0, 1440, 1440, 1}, {0, 5, 4, 1}, {0, 5, 1440, 1},
            {0, 5, 5, 0}, {0, 5, 5, 1441}, {0, 5, 5, LOW}, {0, 5, 5, HIGH}, {HIGH, 0, 0, 1}};
        for (int[] r : refused) {
            due("9: refused", x.shuttle(r[0], r[1], r[2], r[3]), -2);
        }
        due("9: was a walk", x.shuttle(0, 100, 125, 10), 3);
        int[][] begins = {{0, 100}, {100, 100}, {101, 110}, {110, 110}, {111, 120}, {120, 120}, {121, 1540}, {125, 1540}, {1439, 1540}};
        for (int[] b : begins) {
            x.ways(0, 1, 0, b[0]);
            due("9: begins from " + b[0], x.way(0, 0), b[1]);
            due("9: comes", x.way(0, 1), b[1] + 10);
            due("9: kind", x.leg(0, 0, 0), 4);
        }
        due("9: beyond day 99", x.ways(0, 1, 99, 121), 1);
        due("9: begins", x.way(0, 0), 1440 * 100 + 100);
        due("9: was a shuttle", x.shuttle(0, 0, 1439, 1440), 4);
        x.ways(0, 1, 0, 1);
        due("9: once a day", x.way(0, 0), 1440);
        x.asked(0, 600);
        due("9: was asked", x.shuttle(0, 7, 7, 1), 5);
        x.ways(0, 1, 0, 0);
        due("9: needs no asking then", x.way(0, 0), 7);
        due("9: each minute", x.shuttle(0, 10, 30, 1), 4);
        x.ways(0, 1, 0, 13);
        due("9: at minute 13", x.way(0, 0), 13);
        due("9: LAST counts", x.shuttle(0, 10, 30, 20), 4);
        x.ways(0, 1, 0, 11);
        due("9: at LAST", x.way(0, 0), 30);
    }

    private static void asked() {
        ConnectionDesk x = withStops(3);
        x.walk(0, 1, 10);
        due("10: a walk", x.asked(0, 5), -2);
        x.shuttle(0, 0, 1439, 30);
        int[][] refused = {{-1, 5}, {1, 5}, {0, 0}, {0, 601}, {0, LOW}, {0, HIGH}, {HIGH, 5}};
        for (int[] r : refused) {
            due("10: refused", x.asked(r[0], r[1]), -2);
        }
        due("10: was a shuttle", x.asked(0, 60), 4);
        x.ways(0, 1, 0, 30);
        due("10: just so far ahead", x.way(0, 0), 90);
        x.ways(0, 1, 0, 31);
        due("10: the next one", x.way(0, 0), 120);
        due("10: kind", x.leg(0, 0, 0), 5);
        due("10: was asked", x.asked(0, 600), 5);
        x.ways(0, 1, 0, 0);
        due("10: ahead anew", x.way(0, 0), 600);
        due("10: the least AHEAD", x.asked(0, 1), 5);
        x.ways(0, 1, 0, 30);
        due("10: not at once", x.way(0, 0), 60);
        x.asked(0, 600);
        addTrip(x, 0, 0, 2, 900, 900, 0, 905, 905);
        due("10: behind a ride", x.ways(2, 1, 0, 295), 1);
        due("10: counts from the question", x.leg(0, 1, 4), 930);
        x.ways(2, 1, 0, 331);
        due("10: not from the ride", x.leg(0, 1, 4), 960);
    }

    private static void late() {
        ConnectionDesk x = withStops(3);
        addTrip(x, 0, 0, 0, 10, 12, 1, 20, 22, 2, 30, 32);
        int[][] refused = {{-1, 0, 0, 1}, {1, 0, 0, 1}, {0, -1, 0, 1}, {0, 100, 0, 1}, {0, 0, -1, 1}, {0, 0, 3, 1},
            {0, 0, 0, 0}, {0, 0, 0, 241}, {0, 0, 0, LOW}, {HIGH, 0, 0, 1}, {0, HIGH, 0, 1}, {0, 0, HIGH, 1}};
        for (int[] r : refused) {
            due("11: refused", x.late(r[0], r[1], r[2], r[3]), -2);
        }
        due("11: none told", x.count(6), 0);
        due("11: from call 1", x.late(0, 3, 1, 5), 5);
        due("11: up to call 0", x.late(0, 3, 0, 2), 2);
        due("11: together", x.late(0, 3, 2, 240), 247);
        due("11: call 1 again", x.late(0, 3, 1, 1), 8);
        due("11: comes later", x.table(1, 3, 0, 2), 28);
        due("11: leaves later", x.table(0, 3, 0, 3), 14);
        due("11: another day", x.table(1, 4, 0, 2), 20);
        due("11: ways", x.ways(0, 2, 3, 13), 1);
        dueWay("11", x, 0, 3 * 1440 + 14, 3 * 1440 + 278, 1, 0, 1);
        for (int n = 4; n < 60; n++) {
            due("11: more", x.late(0, 0, 0, 240), 240 * (n - 3));
        }
        due("11: the 61st", x.late(0, 3, 0, 1), -2);
        due("11: told", x.count(6), 60);
        due("11: nine days late", x.ways(0, 2, 9, 0), 1);
        dueLeg("11: then the next one", x, 0, 0, 0, 0, 0, 2, 9 * 1440 + 12, 9 * 1440 + 30, 9, 0, 2);
        due("11: gone on the days around", x.gone(0, 9, true) + x.gone(0, 10, true), 0);
        due("11: it is the late one", x.ways(0, 2, 9, 0), 1);
        dueLeg("11: of day 0", x, 0, 0, 0, 0, 0, 2, 12 + 56 * 240, 30 + 56 * 240, 0, 0, 2);
    }

    private static void gone() {
        ConnectionDesk x = withStops(2);
        addTrip(x, 0, 0, 0, 10, 10, 1, 20, 20);
        addTrip(x, 0, 0, 0, 10, 10, 1, 25, 25);
        due("12: was not", x.gone(0, 5, true), 0);
        due("12: was", x.gone(0, 5, true), 1);
        x.ways(0, 1, 5, 0);
        due("12: the other trip", x.leg(0, 0, 1), 1);
        x.ways(0, 1, 6, 0);
        due("12: another day", x.leg(0, 0, 1), 0);
        due("12: table", x.table(0, 5, 0, 0), 1);
        due("12: and back", x.gone(0, 5, false), 1);
        due("12: was not again", x.gone(0, 5, false), 0);
        x.ways(0, 1, 5, 0);
        due("12: it runs", x.leg(0, 0, 1), 0);
        int[][] refused = {{-1, 5}, {2, 5}, {0, -1}, {0, 100}, {32, 5}, {LOW, 5}, {0, HIGH}};
        for (int[] r : refused) {
            due("12: refused", x.gone(r[0], r[1], true), -2);
        }
    }

    private static void waysThatNoneBeats() {
        ConnectionDesk x = new ConnectionDesk();
        x.stop(5, 0);
        x.stop(5, 1);
        x.stop(5, 2);
        x.fare(0, 1, 1);
        x.fare(1, 2, 1);
        x.fare(0, 2, 3);
        addTrip(x, 0, 0, 0, 100, 100, 1, 110, 110);
        addTrip(x, 0, 0, 1, 114, 114, 2, 120, 120);
        addTrip(x, 0, 0, 1, 115, 115, 2, 125, 125);
        addTrip(x, 0, 0, 0, 100, 100, 2, 140, 140);
        due("13: two that none beats", x.ways(0, 2, 0, 90), 2);
        dueWay("13: sooner", x, 0, 100, 125, 2, 2, 2);
        dueWay("13: fewer rides", x, 1, 100, 140, 1, 3, 1);
        dueLeg("13: the CHANGE is gone", x, 0, 1, 0, 2, 1, 2, 115, 125, 0, 0, 1);
        x.walk(0, 2, 30);
        due("13: a walk beats the rides", x.ways(0, 2, 0, 90), 1);
        dueWay("13: the walk", x, 0, 90, 120, 0, 0, 1);
        due("13: later", x.ways(0, 2, 0, 100), 2);
        dueWay("13: by rides, sooner", x, 0, 100, 125, 2, 2, 2);
        dueWay("13: the walk later", x, 1, 100, 130, 0, 0, 1);
        int[][] refused = {{-1, 0, 0, 0}, {3, 0, 0, 0}, {0, -1, 0, 0}, {0, 3, 0, 0}, {0, 1, -1, 0}, {0, 1, 100, 0},
            {0, 1, 0, -1}, {0, 1, 0, 1440}, {LOW, 0, 0, 0}, {0, HIGH, 0, 0}, {0, 1, HIGH, 0}, {0, 1, 0, LOW}};
        for (int[] r : refused) {
            due("13: refused", x.ways(r[0], r[1], r[2], r[3]), -2);
        }
        due("13: those at hand stay", x.count(3), 2);
        due("13: to where one is", x.ways(1, 1, 4, 7), 1);
        dueWay("13: no legs", x, 0, 4 * 1440 + 7, 4 * 1440 + 7, 0, 0, 0);
        due("13: none is less than before", x.ways(2, 0, 0, 0), 0);
        due("13: none at hand", x.way(0, 0), -2);
    }

    private static void waysOfThreeRides() {
        ConnectionDesk x = withStops(6);
        for (int s = 0; s < 5; s++) {
            addTrip(x, 0, 0, s, 100 + 10 * s, 100 + 10 * s, s + 1, 105 + 10 * s, 105 + 10 * s);
        }
        due("13: three rides", x.ways(0, 3, 0, 0), 1);
        due("13: rides", x.way(0, 2), 3);
        due("13: four are too many", x.ways(0, 4, 0, 0), 0);
        x.walk(0, 1, 5);
        due("13: a walk for the first", x.ways(0, 4, 0, 0), 1);
        due("13: legs", x.way(0, 4), 4);
        x.walk(3, 4, 5);
        due("13: walk between", x.ways(0, 5, 0, 0), 1);
        due("13: two walks, three rides", x.way(0, 4), 5);
        x.walk(5, 0, 1);
        due("13: no two walks in a row", x.ways(5, 1, 0, 0), 1);
        due("13: a walk and a ride", x.way(0, 2), 1);
    }

    private static void waysToTheEndOfTheNextDay() {
        ConnectionDesk x = withStops(2);
        x.trip(2, 1, 1);
        x.call(0, 0, 1440, 1440);
        x.call(0, 1, 2879, 2879);
        due("13: before the end of the next day", x.ways(0, 1, 0, 0), 1);
        due("13: comes", x.way(0, 1), 2879);
        due("13: the night of the day before", x.ways(0, 1, 1, 0), 1);
        due("13: its day", x.leg(0, 0, 6), 0);
        x.late(0, 0, 1, 1);
        due("13: at the end it is too late", x.ways(0, 1, 0, 0), 0);
        due("13: but not on the next day", x.ways(0, 1, 1, 0), 1);
        x.walk(1, 0, 240);
        x.shuttle(0, 1200, 1200, 1);
        due("13: a shuttle that comes at the end", x.ways(1, 0, 0, 1201), 0);
        x.shuttle(0, 1199, 1199, 1);
        due("13: and one before it", x.ways(1, 0, 0, 1200), 1);
        due("13: its time", x.way(0, 1), 2879);
    }

    /** Of equal arrival, rides and fare: what is the lesser one from the end backwards. */
    private static void waysOfEqualWorth() {
        ConnectionDesk x = withStops(4);
        addTrip(x, 0, 0, 0, 100, 100, 1, 110, 110, 0, 120, 120, 1, 130, 130, 2, 150, 150, 3, 160, 160, 2, 160, 160);
        addTrip(x, 0, 0, 0, 100, 100, 2, 150, 150);
        x.ways(0, 2, 0, 0);
        dueLeg("13: the lesser trip, call on, call off", x, 0, 0, 0, 0, 0, 2, 100, 150, 0, 0, 4);
        x.ways(0, 2, 0, 101);
        dueLeg("13: a later call on", x, 0, 0, 0, 0, 0, 2, 120, 150, 0, 2, 4);
        x.miss(0, 4, true);
        x.ways(0, 2, 0, 101);
        dueLeg("13: a later call off", x, 0, 0, 0, 0, 0, 2, 120, 160, 0, 2, 6);
        x.miss(0, 4, false);
        x.walk(0, 2, 50);
        due("13: a walk as long as the ride", x.ways(0, 2, 0, 100), 1);
        due("13: has fewer rides", x.way(0, 2), 0);
    }

    private static void waysOfEqualWorthByWalks() {
        ConnectionDesk x = withStops(3);
        addTrip(x, 0, 0, 0, 100, 100, 1, 110, 110);
        addTrip(x, 0, 0, 0, 105, 105, 1, 115, 115);
        addTrip(x, 0, 0, 0, 100, 100, 2, 140, 140);
        x.walk(1, 2, 10);
        x.shuttle(0, 130, 130, 1);
        x.walk(1, 2, 10);
        x.shuttle(1, 130, 130, 1);
        x.ways(0, 2, 0, 90);
        dueLeg("13: no walk is less", x, 0, 0, 0, 2, 0, 2, 100, 140, 0, 0, 1);
        x.gone(2, 0, true);
        x.ways(0, 2, 0, 90);
        dueLeg("13: the ride need not be the last", x, 0, 0, 0, 0, 0, 1, 100, 110, 0, 0, 1);
        dueLeg("13: the lesser walk", x, 0, 1, 4, 0, 1, 2, 130, 140, -1, -1, -1);
        x.ways(0, 2, 0, 101);
        dueLeg("13: what still is there", x, 0, 0, 0, 1, 0, 1, 105, 115, 0, 0, 1);
        x.shuttle(0, 131, 131, 1);
        x.ways(0, 2, 0, 90);
        due("13: the sooner walk", x.leg(0, 1, 1), 1);
        due("13: on time", x.way(0, 1), 140);
    }

    /** A ride of an earlier day is less, although its trip is greater; the end decides first. */
    private static void waysOfEqualWorthByDays() {
        ConnectionDesk x = withStops(3);
        addTrip(x, 0, 0, 0, 60, 60, 1, 120, 120);
        x.trip(2, 1, 9);
        x.call(1, 0, 1500, 1500);
        x.call(1, 1, 1560, 1560);
        x.ways(0, 1, 1, 0);
        dueLeg("13: the earlier day", x, 0, 0, 2, 1, 0, 1, 1500, 1560, 0, 0, 1);
        addTrip(x, 0, 0, 1, 130, 130, 2, 140, 140);
        addTrip(x, 0, 0, 1, 125, 125, 2, 140, 140);
        x.ways(0, 2, 1, 0);
        due("13: the last ride by its trip", x.leg(0, 1, 1), 2);
        due("13: the ride before by its day", x.leg(0, 0, 1), 1);
        x.late(1, 0, 1, 7);
        x.ways(0, 2, 1, 0);
        due("13: the end decides first", x.leg(0, 1, 1), 2);
        due("13: the late one still makes it", x.leg(0, 0, 1), 1);
        x.late(1, 0, 1, 4);
        x.ways(0, 2, 1, 0);
        due("13: now the other one", x.leg(0, 0, 1), 0);
    }

    private static void changesAndWalksBetweenRides() {
        ConnectionDesk x = new ConnectionDesk();
        x.stop(0, 0);
        x.stop(30, 0);
        x.stop(30, 0);
        x.stop(0, 0);
        addTrip(x, 0, 0, 0, 100, 100, 1, 110, 110);
        addTrip(x, 0, 0, 2, 115, 115, 3, 120, 120);
        x.walk(1, 2, 5);
        due("13: behind a walk no CHANGE", x.ways(0, 3, 0, 100), 1);
        due("13: comes", x.way(0, 1), 120);
        x.late(0, 0, 1, 1);
        due("13: the next day then", x.ways(0, 3, 0, 100), 1);
        due("13: comes a day later", x.way(0, 1), 1560);
        due("13: at the first ride no CHANGE", x.ways(1, 3, 0, 110), 1);
        due("13: walk and ride", x.way(0, 1), 120);
        due("13: nor without a walk", x.ways(2, 3, 0, 115), 1);
        due("13: just on time", x.way(0, 0), 115);
        x.ways(2, 3, 0, 116);
        due("13: missed by a minute", x.way(0, 0), 1555);
    }

    /** Seven legs: a walk ahead of the rides and one behind each of the three. */
    private static void wayOfSevenLegs() {
        ConnectionDesk x = withStops(8);
        for (int n = 0; n < 4; n++) {
            x.walk(2 * n, 2 * n + 1, 5);
        }
        for (int n = 0; n < 3; n++) {
            addTrip(x, 0, 0, 2 * n + 1, 20 * n + 5, 20 * n + 5, 2 * n + 2, 20 * n + 20, 20 * n + 20);
        }
        for (int round = 0; round < 2; round++) {
            due("13: one way of seven legs", x.ways(0, 7, 0, 0), 1);
            dueWay("14: seven legs", x, 0, 0, 65, 3, 0, 7);
            for (int k = 0; k < 7; k++) {
                int begins = k / 2 * 20 + k % 2 * 5;
                dueLeg("15: leg " + k, x, 0, k, k % 2 == 0 ? 3 : 0, k / 2, k, k + 1, begins, begins + (k % 2 == 0 ? 5 : 15));
            }
            due("16: its ticket", x.take(0), round);
            due("19: comes", x.comes(round), 65);
        }
        x.late(2, 0, 0, 1);
        due("18: the last ride waits", x.still(0), 0);
        x.late(1, 0, 1, 2);
        due("18: not long enough", x.still(1), 6);
    }

    /** As many tickets as there can be, each in three trips of a day of its own. */
    private static void ticketsOfSevenLegs() {
        ConnectionDesk x = withStops(8);
        for (int n = 0; n < 4; n++) {
            x.walk(2 * n, 2 * n + 1, 5);
        }
        for (int n = 0; n < 3; n++) {
            addTrip(x, 1, 1, 2 * n + 1, 20 * n + 5, 20 * n + 5, 2 * n + 2, 20 * n + 20, 20 * n + 20);
        }
        for (int d = 0; d < 30; d++) {
            x.ways(0, 7, 99 - d, 0);
            due("16: ticket " + d, x.take(0), d);
        }
        for (int round = 0; round < 2; round++) {
            for (int n = 0; n < 90; n++) {
                due("20: place", x.taken(n % 3, 99 - n / 3, 0), 1 - round);
                // An object is used for at most 512 calls, so that not all can be asked for.
                if (n % 4 == 0) {
                    due("13: none is left, or all", x.ways(2 * (n % 3) + 1, 2 * (n % 3) + 2, 99 - n / 3, 0), round);
                }
            }
            for (int d = 0; d < 30; d++) {
                due("18: can be travelled", x.still(d), round == 0 ? 0 : -2);
                due("17: given back", x.give(d), round == 0 ? 1 : -2);
            }
        }
    }

    /** The ride before must leave time for the CHANGE, or for the walk, that was found behind it. */
    private static void leastRideInTime() {
        ConnectionDesk x = new ConnectionDesk();
        x.stop(0, 0);
        x.stop(10, 0);
        x.stop(0, 0);
        addTrip(x, 0, 0, 0, 100, 100, 1, 111, 111);
        addTrip(x, 0, 0, 0, 100, 100, 1, 110, 110);
        addTrip(x, 0, 0, 1, 120, 120, 2, 130, 130);
        x.ways(0, 2, 0, 90);
        due("13: the trip with time for the CHANGE", x.leg(0, 0, 1), 1);
        ConnectionDesk y = withStops(4);
        addTrip(y, 0, 0, 0, 100, 100, 1, 111, 111);
        addTrip(y, 0, 0, 0, 100, 100, 1, 110, 110);
        addTrip(y, 0, 0, 2, 120, 120, 3, 130, 130);
        y.walk(1, 2, 10);
        y.ways(0, 3, 0, 90);
        due("13: the trip with time for the walk", y.leg(0, 0, 1), 1);
        due("13: that day", y.way(0, 1), 130);
    }

    /** At a stop one comes too late for its CHANGE, but can get off before and walk there. */
    private static void walkInsteadOfTheChange() {
        ConnectionDesk x = new ConnectionDesk();
        x.stop(0, 0);
        x.stop(30, 0);
        x.stop(30, 0);
        x.stop(0, 0);
        addTrip(x, 0, 0, 0, 100, 100, 2, 105, 105, 1, 110, 110);
        addTrip(x, 0, 0, 1, 115, 115, 3, 120, 120);
        x.walk(2, 1, 10);
        x.ways(0, 3, 0, 100);
        dueWay("13: by the walk", x, 0, 100, 120, 2, 0, 3);
        dueLeg("13: off before", x, 0, 0, 0, 0, 0, 2, 100, 105, 0, 0, 1);
        dueLeg("13: and on foot", x, 0, 1, 3, 0, 2, 1, 105, 115, -1, -1, -1);
    }

    /** All trips of three days, and all that can be late beside them: the last ones count, too. */
    private static void waysOfManyRuns() {
        ConnectionDesk x = withStops(3);
        for (int t = 0; t < 24; t++) {
            x.trip(2, 127, 1);
            x.call(t, 0, 600, 600);
            x.call(t, t == 23 ? 2 : 1, 2000 + t, 2000 + t);
        }
        for (int n = 0; n < 60; n++) {
            due("11: late", x.late(n % 12, 8 - n / 12, 1, 240), 240);
        }
        due("13: the last trip", x.ways(0, 2, 20, 0), 1);
        due("13: of the day", x.leg(0, 0, 6), 20);
        due("13: by its end", x.ways(0, 2, 20, 601), 0);
        x.late(23, 20, 1, 240);
        due("13: the next day", x.ways(0, 1, 10, 0), 1);
        ConnectionDesk y = withStops(2);
        for (int t = 0; t < 24; t++) {
            addTrip(y, 2, 1, 0, 0, 2800, 1, 2879, 2879);
        }
        for (int n = 0; n < 60; n++) {
            // Six of each trip and day: 1440 minutes late, so that those of day 8 can be ridden on day 10.
            due("11: late", y.late(n / 6, 8, 0, 240), 240 * (n % 6 + 1));
        }
        for (int t = 0; t < 24; t++) {
            y.gone(t, 9, t < 23);
        }
        due("13: late ones and the others", y.ways(0, 1, 10, 0), 1);
        due("13: the least of the late ones", y.leg(0, 0, 6) * 100 + y.leg(0, 0, 1), 800);
        for (int n = 0; n < 10; n++) {
            due("13: by take", y.take(0), n);
            y.ways(0, 1, 10, 0);
        }
        due("13: when all late ones are full", y.leg(0, 0, 6) * 100 + y.leg(0, 0, 1), 923);
    }

    private static void waysAtTheTimeOfTheQuestion() {
        ConnectionDesk x = withStops(2);
        addTrip(x, 0, 0, 0, 100, 100, 1, 100, 100);
        due("13: gets on and off at its TIME", x.ways(0, 1, 0, 100), 1);
        dueWay("13: in no time", x, 0, 100, 100, 1, 0, 1);
        x.fare(0, 0, 1);
        x.ways(0, 1, 0, 100);
        due("13: a fare of 1", x.way(0, 3), 1);
        ConnectionDesk y = withStops(1);
        y.ways(0, 0, 0, 0);
        y.take(0);
        due("18: at TIME 0", y.still(0), 0);
        due("19: at TIME 0", y.comes(0), 0);
    }

    private static void wayAndLeg() {
        ConnectionDesk x = new ConnectionDesk();
        x.stop(0, 0);
        x.stop(0, 1);
        x.stop(0, 2);
        x.stop(0, 3);
        x.fare(1, 2, 9);
        addTrip(x, 2, 3, 0, 0, 0, 1, 1450, 1460, 2, 1500, 1500);
        x.walk(0, 1, 15);
        x.shuttle(0, 20, 20, 1);
        x.walk(2, 3, 40);
        x.miss(0, 0, true);
        due("14: one way", x.ways(0, 3, 0, 3), 1);
        dueWay("14", x, 0, 20, 1540, 1, 9, 3);
        dueLeg("15", x, 0, 0, 4, 0, 0, 1, 20, 35, -1, -1, -1);
        dueLeg("15", x, 0, 1, 2, 0, 1, 2, 1460, 1500, 0, 1, 2);
        dueLeg("15", x, 0, 2, 3, 1, 2, 3, 1500, 1540, -1, -1, -1);
        x.late(0, 0, 0, 50);
        x.shuttle(1, 0, 0, 1);
        x.fare(1, 2, 1);
        x.gone(0, 0, true);
        dueWay("14: as it was found", x, 0, 20, 1540, 1, 9, 3);
        dueLeg("15: as it was found", x, 0, 1, 2, 0, 1, 2, 1460, 1500, 0, 1, 2);
        dueLeg("15: as it was found", x, 0, 2, 3, 1, 2, 3, 1500, 1540, -1, -1, -1);
        for (int bad : new int[] {-1, 1, 58, LOW, HIGH}) {
            due("14: no such way", x.way(bad, 0), -2);
            due("15: no such way", x.leg(bad, 0, 0), -2);
        }
        for (int bad : new int[] {-1, 5, LOW, HIGH}) {
            due("14: no such what", x.way(0, bad), -2);
        }
        for (int bad : new int[] {-1, 3, LOW, HIGH}) {
            due("15: no such leg", x.leg(0, bad, 0), -2);
        }
        for (int bad : new int[] {-1, 9, LOW, HIGH}) {
            due("15: no such what", x.leg(0, 0, bad), -2);
        }
    }

    private static void take() {
        ConnectionDesk x = withStops(3);
        addTrip(x, 1, 2, 0, 10, 10, 1, 20, 20, 2, 30, 30);
        x.ways(0, 1, 0, 0);
        due("16: no such way", x.take(1), -2);
        due("16: no such way", x.take(-1), -2);
        due("16: no such way", x.take(HIGH), -2);
        due("16: a ticket", x.take(0), 0);
        due("20: where it gets on", x.taken(0, 0, 0), 1);
        due("20: not where it gets off", x.taken(0, 0, 1), 0);
        due("16: the way stays at hand", x.take(0), 1);
        due("20: two", x.taken(0, 0, 0), 2);
        due("16: no place is left", x.take(0), -2);
        due("16: none made", x.count(4), 2);
        due("16: not the whole way", x.ways(0, 2, 0, 0), 1);
        due("16: but on the next day", x.leg(0, 0, 6), 1);
        due("16: the rest of it", x.ways(1, 2, 0, 0), 1);
        due("16: that day", x.leg(0, 0, 6), 0);
        due("16: up to a call that is full", x.ways(1, 2, 0, 0), 1);
        due("16: taken", x.take(0), 2);
        due("20: at call 1", x.taken(0, 0, 1), 1);
        due("20: never at the last call", x.taken(0, 0, 2), 0);
        due("20: not on another day", x.taken(0, 1, 0), 0);
    }

    private static void takeFromANight() {
        ConnectionDesk x = withStops(3);
        addTrip(x, 2, 1, 0, 10, 10, 1, 20, 20, 2, 30, 30);
        x.ways(1, 2, 0, 0);
        due("16: from call 1 on", x.take(0), 0);
        x.give(0);
        x.ways(0, 1, 0, 0);
        due("16: to call 1", x.take(0), 1);
        due("16: full", x.take(0), -2);
        x.give(1);
        ConnectionDesk y = withStops(3);
        addTrip(y, 2, 1, 0, 10, 10, 1, 20, 20, 2, 30, 30);
        y.ways(1, 2, 0, 0);
        y.take(0);
        y.ways(0, 1, 0, 0);
        due("16: a full call where it gets off", y.take(0), 1);
        y.give(0);
        due("20: other places stay", y.taken(0, 0, 0), 1);
        due("20: its place is free", y.taken(0, 0, 1), 0);
    }

    private static void takeUpToThirty() {
        ConnectionDesk x = withStops(2);
        addTrip(x, 0, 0, 0, 10, 10, 1, 20, 20);
        x.ways(0, 1, 0, 0);
        for (int n = 0; n < 30; n++) {
            due("16: RIDES have no seats", x.take(0), n);
            due("16: given", x.give(n), 1);
        }
        due("20: nothing TAKEN in a RIDE", x.taken(0, 0, 0), 0);
        due("16: the 31st, though all were given", x.take(0), -2);
        due("16: made", x.count(4), 30);
        due("16: out", x.count(5), 0);
    }

    /** At one minute a trip goes by way of stops 1 2 0 1: from 0 to 2 is call 2 to 3, then 0 to 1. */
    private static void takeOneTripTwice() {
        for (int seats = 1; seats <= 2; seats++) {
            ConnectionDesk x = withStops(3);
            x.trip(1, 1, seats);
            x.call(0, 1, 10, 10);
            x.call(0, 2, 10, 10);
            x.call(0, 0, 10, 10);
            x.call(0, 1, 10, 10);
            due("16: on again at an earlier call", x.ways(0, 2, 0, 0), 1);
            due("16: two rides", x.way(0, 2), 2);
            due("16: that don't overlap", x.take(0), 0);
            due("16: again", x.take(0), seats == 1 ? -2 : 1);
        }
    }

    /** Stops 1 0 2 1 3 at one minute: 0 to 1 is call 1 to 3, then 1 to 3 is call 0 to 4. */
    private static void takeOverlapping() {
        for (int seats = 1; seats <= 2; seats++) {
            ConnectionDesk x = new ConnectionDesk();
            x.stop(0, 0);
            x.stop(0, 1);
            x.stop(0, 2);
            x.stop(0, 3);
            x.trip(1, 1, seats);
            x.call(0, 1, 10, 10);
            x.call(0, 0, 10, 10);
            x.call(0, 2, 10, 10);
            x.call(0, 1, 10, 10);
            x.call(0, 3, 10, 10);
            x.fare(0, 3, 9);
            x.fare(1, 3, 5);
            x.fare(0, 2, 1);
            x.fare(2, 3, 7);
            due("16: two ways", x.ways(0, 3, 0, 0), 2);
            due("16: dearer", x.way(0, 3), 9);
            due("16: cheaper by two rides", x.way(1, 3), 5);
            dueLeg("16: first ride", x, 1, 0, 1, 0, 0, 1, 10, 10, 0, 1, 3);
            dueLeg("16: second ride", x, 1, 1, 1, 0, 1, 3, 10, 10, 0, 0, 4);
            due("16: its own places count", x.take(1), seats == 1 ? -2 : 0);
            due("16: changes nothing, or takes both", x.taken(0, 0, 1), seats == 1 ? 0 : 2);
            due("16: at its first call", x.taken(0, 0, 0), seats == 1 ? 0 : 1);
            due("16: the other one", x.take(0), seats == 1 ? 0 : -2);
        }
    }

    private static void give() {
        ConnectionDesk x = withStops(2);
        addTrip(x, 1, 1, 0, 10, 10, 1, 20, 20);
        x.ways(0, 1, 0, 0);
        for (int bad : new int[] {-1, 0, 30, LOW, HIGH}) {
            due("17: no such ticket", x.give(bad), -2);
        }
        due("17: taken", x.take(0), 0);
        due("17: full", x.take(0), -2);
        due("17: given back", x.give(0), 1);
        due("17: free", x.taken(0, 0, 0), 0);
        due("17: not twice", x.give(0), -2);
        due("17: still free", x.taken(0, 0, 0), 0);
        due("17: a new number", x.take(0), 1);
        due("17: made", x.count(4), 2);
        due("17: out", x.count(5), 1);
        due("18: given back", x.still(0), -2);
        due("19: given back", x.comes(0), -2);
    }

    private static ConnectionDesk withJourney() {
        ConnectionDesk x = new ConnectionDesk();
        x.stop(4, 0);
        x.stop(4, 0);
        x.stop(4, 0);
        x.stop(4, 0);
        addTrip(x, 1, 1, 0, 100, 100, 1, 110, 111);
        addTrip(x, 1, 1, 1, 115, 116, 2, 125, 126);
        addTrip(x, 1, 1, 3, 150, 150, 1, 160, 160);
        x.walk(2, 3, 10);
        x.shuttle(0, 130, 140, 10);
        x.ways(0, 1, 0, 90);
        x.ways(0, 3, 0, 90);
        due("18: ticket", x.take(0), 0);
        due("18: can be travelled", x.still(0), 0);
        due("19: comes", x.comes(0), 140);
        return x;
    }

    private static void still() {
        ConnectionDesk x = withJourney();
        due("18: its places are its own", x.taken(0, 0, 0), 1);
        x.late(0, 0, 1, 2);
        due("18: the CHANGE is just kept", x.still(0), 0);
        x.late(0, 0, 1, 1);
        due("18: and no more", x.still(0), 2);
        due("19: then", x.comes(0), -1);
        x.late(1, 0, 0, 1);
        due("18: it waits", x.still(0), 0);
        due("19: the shuttle does, too", x.comes(0), 140);
        x.late(1, 0, 1, 4);
        due("19: just caught", x.comes(0), 140);
        x.late(1, 0, 1, 1);
        due("19: the next one", x.comes(0), 150);
        x.late(1, 0, 1, 100);
        due("18: a walk always can", x.still(0), 0);
        due("19: the next day's", x.comes(0), 1580);
        x.shuttle(0, 300, 300, 1);
        due("19: told anew", x.comes(0), 310);
        x.asked(0, 211);
        due("19: asked for too late", x.comes(0), 1440 + 310);
        x.asked(0, 210);
        due("19: asked for in time", x.comes(0), 310);
        for (int n = 0; n < 30; n++) {
            x.late(1, 0, 1, 240);
        }
        due("18: it may come later than the next day", x.still(0), 0);
        due("19: much later", x.comes(0), 1440 * 5 + 310);
        for (int bad : new int[] {-1, 1, LOW, HIGH}) {
            due("18: no such ticket", x.still(bad), -2);
            due("19: no such ticket", x.comes(bad), -2);
        }
    }

    private static void stillRuns() {
        ConnectionDesk x = withJourney();
        x.gone(1, 0, true);
        due("18: gone", x.still(0), 2);
        x.gone(0, 0, true);
        due("18: the first leg that can't be", x.still(0), 1);
        x.gone(0, 0, false);
        x.gone(1, 0, false);
        due("18: both are back", x.still(0), 0);
        x.gone(1, 1, true);
        due("18: another day", x.still(0), 0);
        int[][] calls = {{0, 0, 1}, {0, 1, 1}, {1, 0, 2}, {1, 1, 2}};
        for (int[] c : calls) {
            x.miss(c[0], c[1], true);
            due("18: a missed call", x.still(0), c[2]);
            due("19: a missed call", x.comes(0), -1);
            x.miss(c[0], c[1], false);
        }
        due("18: none is missed", x.still(0), 0);
        ConnectionDesk y = withStops(2);
        y.trip(0, 1, 0);
        y.call(0, 0, 10, 10);
        y.call(0, 1, 20, 20);
        y.ways(0, 1, 0, 10);
        y.take(0);
        y.day(0, 1);
        due("18: the day is of another KIND", y.still(0), 1);
        y.day(0, 0);
        due("18: and again of its own", y.still(0), 0);
        y.ways(0, 0, 3, 5);
        y.take(0);
        due("18: without legs", y.still(1), 0);
        due("19: at the question's TIME", y.comes(1), 3 * 1440 + 5);
    }

    private static void stillWithTheChangeOfItsStop() {
        ConnectionDesk x = new ConnectionDesk();
        x.stop(0, 0);
        x.stop(9, 0);
        x.stop(0, 0);
        x.stop(30, 0);
        addTrip(x, 0, 0, 0, 100, 100, 1, 110, 110);
        addTrip(x, 0, 0, 3, 100, 100, 1, 120, 120, 2, 130, 130);
        x.ways(0, 2, 0, 100);
        due("18: ticket", x.take(0), 0);
        due("18: the CHANGE of stop 1", x.still(0), 0);
        x.late(0, 0, 1, 1);
        due("18: just enough", x.still(0), 0);
        x.late(0, 0, 1, 1);
        due("18: not enough", x.still(0), 2);
    }

    private static void stillWithAWalkAhead() {
        ConnectionDesk x = new ConnectionDesk();
        x.stop(30, 0);
        x.stop(30, 0);
        x.stop(30, 0);
        addTrip(x, 0, 0, 1, 100, 100, 2, 110, 110);
        x.walk(0, 1, 10);
        x.ways(0, 2, 0, 80);
        x.take(0);
        due("18: behind a walk no CHANGE", x.still(0), 0);
        x.shuttle(0, 90, 90, 1);
        due("18: a walk that became a shuttle", x.still(0), 0);
        x.shuttle(0, 91, 91, 1);
        due("18: too late for the ride", x.still(0), 2);
        x.late(0, 0, 0, 1);
        due("18: which is late, too", x.still(0), 0);
        due("19: comes late", x.comes(0), 111);
    }

    private static void taken() {
        ConnectionDesk x = withStops(2);
        addTrip(x, 2, 5, 0, 10, 10, 1, 20, 20);
        x.ways(0, 1, 99, 0);
        x.take(0);
        due("20: day 99", x.taken(0, 99, 0), 1);
        int[][] refused = {{-1, 0, 0}, {1, 0, 0}, {0, -1, 0}, {0, 100, 0}, {0, 0, -1}, {0, 0, 2}, {LOW, 0, 0}, {0, HIGH, 0}, {0, 0, HIGH}};
        for (int[] r : refused) {
            due("20: refused", x.taken(r[0], r[1], r[2]), -2);
        }
    }

    private static void seatsOnTheWay() {
        ConnectionDesk x = withStops(4);
        addTrip(x, 1, 1, 0, 10, 10, 1, 20, 20, 2, 30, 30, 3, 40, 40);
        x.gone(0, 1, true);
        x.ways(1, 2, 0, 0);
        x.take(0);
        due("13: over a full call", x.ways(0, 3, 0, 0), 0);
        due("13: into a full call", x.ways(0, 2, 0, 0), 0);
        due("13: up to a full call", x.ways(0, 1, 0, 0), 1);
        due("13: on at a full call", x.ways(1, 3, 0, 0), 0);
        due("13: behind a full call", x.ways(2, 3, 0, 0), 1);
        x.give(0);
        due("13: free again", x.ways(0, 3, 0, 0), 1);
    }

    private static void latest() {
        ConnectionDesk x = withStops(4);
        addTrip(x, 0, 0, 1, 500, 500, 2, 520, 520);
        x.walk(0, 1, 20);
        due("21: walk and ride", x.latest(0, 2, 3, 3 * 1440 + 520), 480);
        due("21: a minute too soon", x.latest(0, 2, 3, 3 * 1440 + 519), -1);
        due("21: by the next day", x.latest(0, 2, 3, 4 * 1440 + 520), 1439);
        due("21: before the end of the next day", x.latest(0, 2, 3, HIGH), 1439);
        due("21: none goes there", x.latest(0, 3, 3, HIGH), -1);
        due("21: walk alone", x.latest(0, 1, 0, 100), 80);
        due("21: walk from minute 0", x.latest(0, 1, 0, 20), 0);
        due("21: not before minute 0", x.latest(0, 1, 0, 19), -1);
        due("21: where one is", x.latest(0, 0, 2, 2 * 1440 + 7), 7);
        due("21: where one is, at the end", x.latest(0, 0, 2, HIGH), 1439);
        due("21: where one is, too late", x.latest(0, 0, 2, 2 * 1440 - 1), -1);
        due("21: long ago", x.latest(0, 1, 0, LOW), -1);
        x.shuttle(0, 450, 470, 20);
        x.asked(0, 60);
        due("21: to be asked for", x.latest(0, 2, 3, 3 * 1440 + 520), 410);
        x.gone(0, 99, true);
        due("21: no day 100", x.latest(1, 2, 99, HIGH), -1);
        int[][] refused = {{-1, 0, 0}, {4, 0, 0}, {0, -1, 0}, {0, 4, 0}, {0, 1, -1}, {0, 1, 100}, {LOW, 0, 0}, {0, 1, HIGH}};
        for (int[] r : refused) {
            due("21: refused", x.latest(r[0], r[1], r[2], 5000), -2);
        }
        due("21: no ways at hand by it", x.count(3), 0);
    }

    private static void reach() {
        ConnectionDesk x = withStops(5);
        addTrip(x, 0, 0, 0, 100, 100, 1, 110, 110, 2, 130, 130);
        x.walk(2, 3, 5);
        due("22: at once", x.reach(0, 0, 100, 0), 1);
        due("22: a minute short", x.reach(0, 0, 100, 9), 1);
        due("22: just so many", x.reach(0, 0, 100, 10), 3);
        due("22: a ride and a walk", x.reach(0, 0, 100, 35), 15);
        due("22: all that can be", x.reach(0, 0, 100, HIGH), 15);
        due("22: the next day's", x.reach(0, 0, 101, 1449), 3);
        due("22: from there", x.reach(2, 0, 0, 4), 4);
        due("22: by the walk", x.reach(2, 99, 1439, 5), 12);
        x.gone(0, 99, true);
        x.walk(3, 4, 240);
        x.shuttle(1, 1200, 1200, 1);
        due("22: at the end of the next day", x.reach(3, 5, 1201, HIGH), 8);
        x.shuttle(1, 1199, 1199, 1);
        due("22: before the end", x.reach(3, 5, 1201, HIGH), 24);
        due("22: nothing behind day 99", x.reach(0, 99, 0, HIGH), 1);
        int[][] refused = {{-1, 0, 0, 0}, {5, 0, 0, 0}, {0, -1, 0, 0}, {0, 100, 0, 0}, {0, 0, -1, 0}, {0, 0, 1440, 0}, {0, 0, 0, -1}, {0, 0, 0, LOW}};
        for (int[] r : refused) {
            due("22: refused", x.reach(r[0], r[1], r[2], r[3]), -2);
        }
    }

    private static void reachByThreeRides() {
        ConnectionDesk x = withStops(5);
        x.fare(0, 0, 9);
        for (int s = 0; s < 4; s++) {
            addTrip(x, 0, 0, s, 10 + 10 * s, 10 + 10 * s, s + 1, 15 + 10 * s, 15 + 10 * s);
        }
        due("22: by three rides, not by four", x.reach(0, 0, 0, HIGH), 15);
        due("21: by three rides", x.latest(0, 3, 0, 35), 10);
        due("23: by three rides", x.meet(9, 0, 0), 3);
        due("24: by three rides", x.met(), 35);
        x.late(2, 0, 1, 240);
        for (int n = 0; n < 11; n++) {
            x.late(2, 0, 1, 240);
        }
        x.gone(2, 1, true);
        due("22: comes at 2915, too late", x.reach(0, 0, 0, HIGH), 7);
        ConnectionDesk y = withStops(2);
        y.trip(2, 1, 1);
        y.call(0, 0, 1440, 1440);
        y.call(0, 1, 2879, 2879);
        due("22: a ride before the end of the next day", y.reach(0, 0, 0, HIGH), 3);
        y.late(0, 0, 1, 1);
        due("22: a ride at the end of the next day", y.reach(0, 0, 0, HIGH), 1);
        due("21: a ride at the end of the next day", y.latest(0, 1, 0, HIGH), -1);
        due("23: a ride at the end of the next day", y.meet(3, 0, 0), -1);
    }

    private static void meet() {
        ConnectionDesk x = withStops(4);
        due("23: at stop 0", x.meet(1, 1, 4), 0);
        due("24: at stop 0", x.met(), 1444);
        due("23: alone", x.meet(4, 1, 5), 2);
        due("24: at once", x.met(), 1445);
        due("23: cannot meet", x.meet(3, 2, 5), -1);
        due("24: stays", x.met(), 1445);
        x.walk(0, 2, 10);
        x.walk(1, 2, 20);
        x.walk(0, 3, 20);
        x.walk(1, 3, 15);
        due("23: of equal ones the least", x.meet(3, 2, 5), 2);
        due("24: when the last one is there", x.met(), 2 * 1440 + 25);
        x.walk(1, 3, 1);
        x.walk(0, 3, 19);
        due("23: sooner", x.meet(3, 2, 5), 3);
        due("24: sooner", x.met(), 2 * 1440 + 24);
        due("23: one waits where he is", x.meet(9, 2, 5), 3);
        int[][] refused = {{0, 0, 0}, {16, 0, 0}, {17, 0, 0}, {-1, 0, 0}, {LOW, 0, 0}, {HIGH, 0, 0}, {1, -1, 0}, {1, 100, 0}, {1, 0, -1}, {1, 0, 1440}};
        for (int[] r : refused) {
            due("23: refused", x.meet(r[0], r[1], r[2]), -2);
        }
        due("24: refused ones change nothing", x.met(), 2 * 1440 + 24);
        due("23: three", x.meet(7, 2, 5), 2);
        due("24: three", x.met(), 2 * 1440 + 25);
        ConnectionDesk y = withStops(12);
        due("23: all twelve are known", y.meet(1 << 11, 0, 0), 11);
        due("23: no thirteenth", y.meet(1 << 12, 0, 0), -2);
    }

    private static void table() {
        ConnectionDesk x = withStops(2);
        addTrip(x, 0, 0, 0, 10, 30, 0, 30, 30, 1, 40, 40);
        addTrip(x, 0, 0, 0, 5, 30, 1, 41, 41);
        addTrip(x, 2, 9, 0, 0, 20, 0, 2000, 2879);
        int[][] due = {{2, 0, 0, 20}, {0, 0, 10, 30}, {0, 1, 30, 30}, {1, 0, 5, 30}, {2, 1, 2000, 2879}};
        for (int i = 0; i < due.length; i++) {
            for (int what = 0; what < 4; what++) {
                due("25: row " + i + ", " + what, x.table(0, 9, i, what), due[i][what]);
            }
        }
        due("25: no more", x.table(0, 9, 5, 0), -1);
        due("25: below 0", x.table(0, 9, -1, 0), -1);
        due("25: far below", x.table(0, 9, LOW, 0), -1);
        due("25: far above", x.table(0, 9, HIGH, 0), -1);
        x.late(2, 9, 0, 11);
        due("25: LATE counts for the order", x.table(0, 9, 3, 0), 2);
        due("25: when it comes", x.table(0, 9, 3, 2), 11);
        due("25: when it leaves", x.table(0, 9, 3, 3), 31);
        due("25: and beyond the day", x.table(0, 9, 4, 3), 2890);
        x.miss(0, 0, true);
        due("25: MISSED are left out", x.table(0, 9, 0, 1), 1);
        x.gone(0, 9, true);
        due("25: GONE are left out", x.table(0, 9, 0, 0), 1);
        int[][] refused = {{-1, 0, 0, 0}, {2, 0, 0, 0}, {0, -1, 0, 0}, {0, 100, 0, 0}, {0, 0, 0, -1}, {0, 0, 0, 4}, {0, 0, -1, 4}, {HIGH, 0, 0, 0}, {0, LOW, 0, 0}};
        for (int[] r : refused) {
            due("25: refused", x.table(r[0], r[1], r[2], r[3]), -2);
        }
    }

    private static void count() {
        ConnectionDesk x = withStops(3);
        addTrip(x, 0, 0, 0, 10, 10, 1, 20, 20);
        x.trip(0, 1, 0);
        x.walk(0, 1, 1);
        x.ways(0, 1, 0, 0);
        x.take(0);
        x.take(0);
        x.take(0);
        x.give(1);
        x.late(0, 0, 0, 1);
        x.late(0, 0, 0, 1);
        int[] due = {3, 2, 1, 1, 3, 2, 2};
        for (int what = 0; what < due.length; what++) {
            due("26: count(" + what + ")", x.count(what), due[what]);
        }
        for (int bad : new int[] {-1, 7, LOW, HIGH}) {
            due("26: no such what", x.count(bad), -2);
        }
    }

    public static void main(String[] args) {
        newObject();
        stop();
        fare();
        day();
        trip();
        call();
        miss();
        walk();
        shuttle();
        asked();
        late();
        gone();
        waysThatNoneBeats();
        waysOfThreeRides();
        waysToTheEndOfTheNextDay();
        waysOfEqualWorth();
        waysOfEqualWorthByWalks();
        waysOfEqualWorthByDays();
        changesAndWalksBetweenRides();
        wayOfSevenLegs();
        ticketsOfSevenLegs();
        leastRideInTime();
        walkInsteadOfTheChange();
        waysOfManyRuns();
        waysAtTheTimeOfTheQuestion();
        wayAndLeg();
        take();
        takeFromANight();
        takeUpToThirty();
        takeOneTripTwice();
        takeOverlapping();
        give();
        still();
        stillRuns();
        stillWithTheChangeOfItsStop();
        stillWithAWalkAhead();
        taken();
        seatsOnTheWay();
        latest();
        reach();
        reachByThreeRides();
        meet();
        table();
        count();
        System.out.println(wrong + " of " + asked + " answers are not as due");
        if (wrong != 0) {
            System.exit(1);
        }
    }
}
