/** The edges that the promises 1 to 12 name: of a new desk, and of what is told to it. */
public final class EdgesOfTheTablesTest {
    private static final int LOW = Edges.LOW;
    private static final int HIGH = Edges.HIGH;

    // ---- Promise 1: a new object

    private static void newHasNoStops() {
        ConnectionDesk x = new ConnectionDesk();
        Edges.due(1, "no stops", x.count(0), 0);
        Edges.due(1, "no stop 0 to go from", x.ways(0, 0, 0, 0), -2);
        Edges.due(1, "no stop 0 to reach from", x.reach(0, 0, 0, 0), -2);
        Edges.due(1, "no stop 0 to be late for", x.latest(0, 0, 0, 0), -2);
        Edges.due(1, "no stop 0 to meet from", x.meet(1, 0, 0), -2);
        Edges.due(1, "no stop 0 with a table", x.table(0, 0, 0, 0), -2);
        Edges.due(1, "no stop 0 to walk from", x.walk(0, 0, 1), -2);
        Edges.due(1, "the first stop is 0", x.stop(0, 0), 0);
    }

    private static void newHasNoTrips() {
        ConnectionDesk x = Edges.desk(1);
        Edges.due(1, "no trips", x.count(1), 0);
        Edges.due(1, "no trip 0 to call", x.call(0, 0, 0, 0), -2);
        Edges.due(1, "no trip 0 to be gone", x.gone(0, 0, true), -2);
        Edges.due(1, "no trip 0 to miss a call", x.miss(0, 0, true), -2);
        Edges.due(1, "no trip 0 to be late", x.late(0, 0, 0, 1), -2);
        Edges.due(1, "none was told to be late", x.count(6), 0);
        Edges.due(1, "no trip 0 with places", x.taken(0, 0, 0), -2);
        Edges.due(1, "nothing on a table", x.table(0, 0, 0, 0), -1);
        Edges.due(1, "the first trip is 0", x.trip(0, 1, 0), 0);
    }

    private static void newHasNoWalks() {
        ConnectionDesk x = Edges.desk(2);
        Edges.due(1, "no walks", x.count(2), 0);
        Edges.due(1, "no walk 0 to be a shuttle", x.shuttle(0, 0, 0, 1), -2);
        Edges.due(1, "no walk 0 to be asked for", x.asked(0, 1), -2);
        Edges.due(1, "the first walk is 0", x.walk(0, 1, 1), 0);
    }

    private static void newHasFaresOfZero() {
        ConnectionDesk x = new ConnectionDesk();
        for (int n = 0; n < 16; n++) {
            Edges.due(1, "all FARES 0", x.fare(n / 4, n % 4, 1 + n % 9), 0);
        }
        for (int n = 0; n < 16; n++) {
            Edges.due(3, "each its own", x.fare(n / 4, n % 4, 0), 1 + n % 9);
        }
    }

    private static void newHasDaysBySeven() {
        ConnectionDesk x = new ConnectionDesk();
        for (int d = 0; d < 100; d++) {
            Edges.due(4, "at first the day's number modulo 7", x.day(d, 6 - d % 7), d % 7);
        }
        for (int d = 0; d < 100; d++) {
            Edges.due(4, "each its own", x.day(d, 0), 6 - d % 7);
        }
    }

    private static void newHasNoWays() {
        ConnectionDesk x = Edges.desk(2);
        Edges.due(1, "no ways", x.count(3), 0);
        Edges.due(1, "no way 0", x.way(0, 0), -2);
        Edges.due(1, "no leg of way 0", x.leg(0, 0, 0), -2);
        Edges.due(1, "no way 0 to take", x.take(0), -2);
        Edges.due(1, "none at hand by that", x.count(4), 0);
    }

    private static void newHasNoTickets() {
        ConnectionDesk x = Edges.desk(1);
        Edges.due(1, "no tickets made", x.count(4), 0);
        Edges.due(1, "none not given back", x.count(5), 0);
        Edges.due(1, "no ticket 0 to give", x.give(0), -2);
        Edges.due(1, "no ticket 0 to travel", x.still(0), -2);
        Edges.due(1, "no ticket 0 to come", x.comes(0), -2);
        Edges.due(24, "-1 at first", x.met(), -1);
        x.ways(0, 0, 0, 0);
        Edges.due(1, "the first ticket is 0", x.take(0), 0);
    }

    /** What is told to one desk is not told to another. */
    private static void newIsNoOther() {
        ConnectionDesk full = Edges.fullTown();
        ConnectionDesk x = new ConnectionDesk();
        for (int what = 0; what <= 6; what++) {
            Edges.due(1, "a new one beside a full one, count(" + what + ")", x.count(what), 0);
        }
        Edges.due(1, "a new one has not met", x.met(), -1);
        Edges.due(1, "its FARES are 0", x.fare(0, 3, 1), 0);
        Edges.due(1, "the full one stays full", full.stop(0, 0), -2);
    }

    // ---- Promise 2: stop

    private static void stopRefused() {
        Edges.Call stop = (x, a) -> x.stop(a[0], a[1]);
        int[][] changes = {{-1, 0}, {31, 0}, {LOW, 0}, {HIGH, 0}, {256, 0}, {-31, 3}};
        Edges.refused(2, "the change is not 0..30", Edges::town, stop, changes);
        int[][] zones = {{0, -1}, {0, 4}, {0, LOW}, {0, HIGH}, {30, 4}, {30, -4}};
        Edges.refused(2, "the zone is not 0..3", Edges::town, stop, zones);
        Edges.refused(2, "the first one is wrong", ConnectionDesk::new, stop, new int[][] {{-1, -1}, {31, 4}});
        int[][] right = {{0, 0}, {30, 3}, {31, 0}, {0, 4}};
        Edges.refused(2, "there are 12", Edges::fullTown, stop, right);
    }

    private static void stopUpToTwelve() {
        ConnectionDesk x = new ConnectionDesk();
        for (int s = 0; s < 12; s++) {
            Edges.due(2, "its number, of 12", x.stop(s % 2 == 0 ? 0 : 30, s % 4), s);
            Edges.due(2, "so many there are", x.count(0), s + 1);
            Edges.due(2, "one can be there", x.ways(s, s, 0, 0), 1);
            Edges.due(2, "the next one is not yet", x.ways(s + 1, s, 0, 0), -2);
        }
        Edges.due(2, "-2 when there are 12", x.stop(0, 0), -2);
    }

    /** Of CHANGE 0 and of CHANGE 30 the ride just in time and the one a minute before it. */
    private static void stopHasItsChange() {
        for (int change = 0; change <= 30; change += 15) {
            ConnectionDesk x = new ConnectionDesk();
            x.stop(30, 0);
            x.stop(change, 0);
            x.stop(30, 0);
            Edges.addTrip(x, 0, 0, 0, 100, 100, 1, 110, 110);
            Edges.addTrip(x, 0, 0, 1, 109 + change, 109 + change, 2, 200, 200);
            Edges.addTrip(x, 0, 0, 1, 110 + change, 110 + change, 2, 210, 210);
            x.ways(0, 2, 0, 100);
            Edges.due(2, "CHANGE " + change + " is gone", x.leg(0, 1, 4), 110 + change);
            Edges.due(2, "CHANGE " + change + ", the way", x.way(0, 1), 210);
        }
    }

    private static void stopHasItsZone() {
        ConnectionDesk x = new ConnectionDesk();
        for (int zone = 0; zone < 4; zone++) {
            x.stop(0, zone);
        }
        for (int n = 0; n < 16; n++) {
            x.fare(n / 4, n % 4, n % 10);
        }
        Edges.addTrip(x, 0, 0, 0, 10, 10, 1, 20, 20, 2, 30, 30, 3, 40, 40);
        Edges.addTrip(x, 0, 0, 3, 50, 50, 2, 60, 60, 1, 70, 70, 0, 80, 80);
        for (int n = 0; n < 16; n++) {
            if (n / 4 != n % 4) {
                x.ways(n / 4, n % 4, 0, 0);
                Edges.due(2, "one ride from zone " + n / 4 + " to zone " + n % 4, x.way(0, 2), 1);
                Edges.due(2, "its fare", x.way(0, 3), n % 10);
            }
        }
    }

    // ---- Promise 3: fare

    private static void fareRefused() {
        Edges.Call fare = (x, a) -> x.fare(a[0], a[1], a[2]);
        int[][] from = {{-1, 0, 1}, {4, 0, 1}, {LOW, 0, 1}, {HIGH, 0, 1}, {-1, 3, 9}};
        Edges.refused(3, "the zone from which is not 0..3", Edges::town, fare, from);
        int[][] to = {{0, -1, 1}, {0, 4, 1}, {0, LOW, 1}, {0, HIGH, 1}, {3, -1, 9}, {1, -4, 5}};
        Edges.refused(3, "the zone to which is not 0..3", Edges::town, fare, to);
        int[][] fares = {{0, 3, -1}, {0, 3, 10}, {0, 3, LOW}, {0, 3, HIGH}, {0, 0, 10}};
        Edges.refused(3, "the fare is not 0..9", Edges::town, fare, fares);
    }

    private static void fareTellsWhatItWas() {
        ConnectionDesk x = new ConnectionDesk();
        Edges.due(3, "0 at first", x.fare(3, 3, 9), 0);
        Edges.due(3, "9 then", x.fare(3, 3, 9), 9);
        Edges.due(3, "9 again", x.fare(3, 3, 0), 9);
        Edges.due(3, "0 again", x.fare(3, 3, 1), 0);
        Edges.due(3, "from 0 to 3 is another one", x.fare(0, 3, 2), 0);
        Edges.due(3, "from 3 to 0 is another one", x.fare(3, 0, 4), 0);
        Edges.due(3, "that stays", x.fare(0, 3, 2), 2);
    }

    /** Three rides of 9 each are the dearest way there can be. */
    private static void fareUpToTwentySeven() {
        ConnectionDesk x = Edges.desk(4);
        x.fare(0, 0, 9);
        for (int s = 0; s < 3; s++) {
            Edges.addTrip(x, 0, 0, s, 10 * s + 10, 10 * s + 10, s + 1, 10 * s + 15, 10 * s + 15);
        }
        Edges.due(3, "three rides of 9", x.ways(0, 3, 0, 0), 1);
        Edges.dueWay(14, "the greatest fare", x, 0, 10, 35, 3, 27, 3);
        x.fare(0, 0, 0);
        Edges.due(14, "the fare as it was found", x.way(0, 3), 27);
        x.ways(0, 3, 0, 0);
        Edges.due(3, "three rides of 0", x.way(0, 3), 0);
    }

    // ---- Promise 4: day

    private static void dayRefused() {
        Edges.Call day = (x, a) -> x.day(a[0], a[1]);
        int[][] days = {{-1, 0}, {100, 0}, {LOW, 0}, {HIGH, 0}, {-100, 6}};
        Edges.refused(4, "there is no such day", Edges::town, day, days);
        int[][] kinds = {{0, -1}, {0, 7}, {99, -1}, {99, 7}, {1, LOW}, {1, HIGH}};
        Edges.refused(4, "the kind is not 0..6", Edges::town, day, kinds);
    }

    private static void dayTellsWhatItWas() {
        ConnectionDesk x = new ConnectionDesk();
        int[] days = {0, 6, 7, 98, 99};
        for (int d : days) {
            Edges.due(4, "what it was, day " + d, x.day(d, 6), d % 7);
            Edges.due(4, "6 then, day " + d, x.day(d, 0), 6);
            Edges.due(4, "0 then, day " + d, x.day(d, 0), 0);
        }
        Edges.due(4, "the day beside stays", x.day(1, 0), 1);
    }

    private static void dayDecidesWhatRuns() {
        for (int kind = 0; kind < 7; kind++) {
            ConnectionDesk x = Edges.desk(2);
            Edges.addTripOf(x, 0, 1 << kind, 0, 0, 10, 10, 1, 20, 20);
            for (int d : new int[] {0, 99}) {
                for (int k = 0; k < 7; k++) {
                    x.day(d, k);
                    Edges.due(4, "day " + d + " of KIND " + k + ", a trip of KIND " + kind, x.table(0, d, 0, 0), k == kind ? 0 : -1);
                }
            }
        }
    }

    // ---- Promise 5: trip

    private static void tripRefused() {
        Edges.Call trip = (x, a) -> x.trip(a[0], a[1], a[2]);
        int[][] kinds = {{-1, 1, 0}, {-1, 1, 1}, {3, 1, 1}, {3, 1, 0}, {LOW, 1, 1}, {HIGH, 1, 1}};
        Edges.refused(5, "the kind is not 0..2", Edges::town, trip, kinds);
        int[][] days = {{0, 0, 0}, {0, 128, 0}, {1, 0, 1}, {2, 128, 1}, {0, -1, 0}, {0, LOW, 0}, {0, HIGH, 0}, {1, 255, 1}};
        Edges.refused(5, "days is not 1..127", Edges::town, trip, days);
        int[][] none = {{0, 1, 1}, {0, 1, -1}, {0, 1, 50}, {0, 127, HIGH}, {0, 127, LOW}};
        Edges.refused(5, "seats is not 0 (kind 0)", Edges::town, trip, none);
        int[][] seats = {{1, 1, 0}, {2, 1, 0}, {1, 1, 51}, {2, 1, 51}, {1, 1, -1}, {2, 1, -1}, {1, 1, LOW}, {2, 1, HIGH}};
        Edges.refused(5, "seats is not 1..50 (else)", Edges::town, trip, seats);
        int[][] right = {{0, 1, 0}, {1, 127, 50}, {2, 64, 1}, {3, 1, 1}};
        Edges.refused(5, "there are 24", Edges::fullTown, trip, right);
    }

    private static void tripUpToTwentyFour() {
        ConnectionDesk x = Edges.desk(2);
        for (int t = 0; t < 24; t++) {
            int kind = t % 3;
            Edges.due(5, "no such trip yet", x.gone(t, 0, false), -2);
            Edges.due(5, "its number, of 24", x.trip(kind, t % 2 == 0 ? 1 : 127, kind == 0 ? 0 : t % 2 == 0 ? 1 : 50), t);
            Edges.due(5, "so many there are", x.count(1), t + 1);
            Edges.due(5, "without calls", x.miss(t, 0, false), -2);
            Edges.due(5, "its first call is 0", x.call(t, 0, t, t), 0);
            Edges.due(5, "its next call is 1", x.call(t, 1, 100 + t, 100 + t), 1);
        }
        Edges.due(5, "-2 when there are 24", x.trip(0, 1, 0), -2);
        Edges.due(5, "the last one runs", x.latest(0, 1, 1, 1440 + 123), 23);
    }

    /** A row of one day alone, the lowest and the highest bit, and of all seven. */
    private static void tripRunsByItsBits() {
        for (int bits : new int[] {1, 2, 64, 65, 126, 127}) {
            ConnectionDesk x = Edges.desk(2);
            Edges.due(5, "days " + bits, x.trip(0, bits, 0), 0);
            x.call(0, 0, 10, 10);
            x.call(0, 1, 20, 20);
            for (int d = 91; d < 100; d++) {
                int due = (bits >> d % 7 & 1) != 0 ? 0 : -1;
                Edges.due(5, "bit k of days, days " + bits + ", day " + d, x.table(0, d, 0, 0), due);
            }
        }
    }

    /** The last seat can be taken, and no more; of 30 and of 50 seats the tickets end first. */
    private static void tripHasSeats() {
        for (int seats : new int[] {1, 2, 29, 30, 50}) {
            for (int kind = 1; kind <= 2; kind++) {
                ConnectionDesk x = Edges.desk(2);
                Edges.addTripOf(x, kind, 1, seats, 0, 10, 10, 1, 20, 20);
                x.ways(0, 1, 0, 0);
                for (int n = 0; n < Math.min(seats, 30); n++) {
                    Edges.due(5, "seat " + n + " of " + seats, x.take(0), n);
                }
                Edges.due(5, "no seat behind the last", x.take(0), -2);
                Edges.due(20, "so many are TAKEN", x.taken(0, 0, 0), Math.min(seats, 30));
                Edges.due(13, "fewer places are TAKEN than it has SEATS", x.ways(0, 1, 0, 0), seats > 30 ? 1 : 0);
            }
        }
    }

    private static void tripWithFewCalls() {
        ConnectionDesk x = Edges.desk(2);
        x.trip(0, 127, 0);
        Edges.due(5, "without calls nobody rides", x.ways(0, 1, 0, 0), 0);
        Edges.due(25, "without calls nothing on the table", x.table(0, 0, 0, 0), -1);
        x.call(0, 0, 10, 10);
        Edges.due(5, "with one call nobody rides", x.ways(0, 1, 0, 0), 0);
        Edges.due(25, "one call on the table", x.table(0, 0, 0, 3), 10);
        x.call(0, 1, 20, 20);
        Edges.due(5, "with two calls one rides", x.ways(0, 1, 0, 0), 1);
    }

    // ---- Promise 6: call

    private static ConnectionDesk withTripsOfEachKind() {
        ConnectionDesk x = Edges.town();
        x.trip(0, 127, 0);
        x.trip(1, 127, 1);
        x.trip(2, 127, 1);
        return x;
    }

    private static void callRefused() {
        Edges.Call call = (x, a) -> x.call(a[0], a[1], a[2], a[3]);
        int[][] trips = {{-1, 0, 5, 5}, {6, 0, 5, 5}, {LOW, 0, 5, 5}, {HIGH, 0, 5, 5}, {24, 0, 5, 5}};
        Edges.refused(6, "there is no such trip", EdgesOfTheTablesTest::withTripsOfEachKind, call, trips);
        int[][] stops = {{3, -1, 5, 5}, {3, 3, 5, 5}, {3, 12, 5, 5}, {3, LOW, 5, 5}, {3, HIGH, 5, 5}};
        Edges.refused(6, "there is no such stop", EdgesOfTheTablesTest::withTripsOfEachKind, call, stops);
        int[][] eight = {{0, 0, 1439, 1439}, {0, 2, 567, 567}, {0, 11, 600, 700}};
        Edges.refused(6, "it has 8 calls", Edges::fullTown, call, eight);
        int[][] below = {{3, 0, -1, 5}, {4, 0, -1, -1}, {5, 0, -1, 0}, {3, 0, LOW, 5}, {3, 0, LOW, LOW}};
        Edges.refused(6, "comes is below 0", EdgesOfTheTablesTest::withTripsOfEachKind, call, below);
        int[][] before = {{0, 0, 559, 600}, {0, 0, 0, 600}, {1, 0, 529, 530}, {2, 0, 1509, 1600}, {2, 0, -1, 1600}};
        Edges.refused(6, "comes is below when the call before leaves", Edges::town, call, before);
        int[][] leaves = {{3, 0, 5, 4}, {4, 0, 1439, 1438}, {5, 0, 2879, 2878}, {3, 0, 0, -1}, {3, 0, 5, LOW}, {0, 0, 561, 560}};
        Edges.refused(6, "leaves is below comes", EdgesOfTheTablesTest::withTripsOfEachKind, call, leaves);
        int[][] above = {{3, 0, 5, 1440}, {4, 0, 5, 1440}, {5, 0, 5, 2880}, {3, 0, 1440, 1440}, {4, 0, 1440, 1440},
            {5, 0, 2880, 2880}, {3, 0, 5, HIGH}, {5, 0, HIGH, HIGH}, {4, 0, 1439, 2879}};
        Edges.refused(6, "leaves is above what the KIND lets", EdgesOfTheTablesTest::withTripsOfEachKind, call, above);
    }

    private static void callUpToEight() {
        ConnectionDesk x = Edges.desk(2);
        x.trip(0, 127, 0);
        x.trip(2, 127, 1);
        for (int k = 0; k < 8; k++) {
            Edges.due(6, "no such call yet", x.miss(0, k, false), -2);
            Edges.due(6, "its number, of 8", x.call(0, k % 2, 10 * k, 10 * k), k);
            Edges.due(6, "there it is", x.miss(0, k, false), 0);
        }
        Edges.due(6, "-2 when it has 8 calls", x.call(0, 0, 1000, 1000), -2);
        Edges.due(6, "another trip has none", x.call(1, 0, 0, 0), 0);
        Edges.due(6, "the last call is ridden to", x.ways(0, 1, 0, 60), 1);
        Edges.dueLeg(6, "of the 8", x, 0, 0, 0, 0, 0, 1, 60, 70, 0, 6, 7);
    }

    private static void callAtTheEndsOfItsDay() {
        for (int kind = 0; kind <= 2; kind++) {
            int last = kind == 2 ? 2879 : 1439;
            ConnectionDesk x = Edges.desk(2);
            x.trip(kind, 1, kind == 0 ? 0 : 1);
            Edges.due(6, "comes at 0", x.call(0, 0, 0, 0), 0);
            Edges.due(6, "comes when the call before leaves", x.call(0, 1, 0, 1), 1);
            Edges.due(6, "not a minute before", x.call(0, 1, 0, 5), -2);
            Edges.due(6, "leaves a minute behind the end", x.call(0, 1, 1, last + 1), -2);
            Edges.due(6, "leaves at the end", x.call(0, 1, 1, last), 2);
            Edges.due(6, "comes and leaves at the end", x.call(0, 0, last, last), 3);
            Edges.due(6, "once more", x.call(0, 1, last, last), 4);
            x.ways(0, 1, 0, 0);
            Edges.dueWay(6, "in no time", x, 0, 0, 0, 1, 0, 1);
        }
    }

    /** The stop of a call may be the one of the call before, and one may be called at again. */
    private static void callAtOneStopTwice() {
        ConnectionDesk x = Edges.desk(2);
        x.trip(0, 127, 0);
        Edges.due(6, "the first", x.call(0, 0, 10, 20), 0);
        Edges.due(6, "the same stop", x.call(0, 0, 20, 30), 1);
        Edges.due(6, "another one", x.call(0, 1, 40, 40), 2);
        Edges.due(25, "both on the table", x.table(0, 0, 1, 1), 1);
    }

    // ---- Promise 7: miss

    private static void missRefused() {
        Edges.Call miss = (x, a) -> x.miss(a[0], a[1], a[2] != 0);
        int[][] trips = {{-1, 0, 1}, {3, 0, 1}, {24, 0, 0}, {LOW, 0, 1}, {HIGH, 0, 1}, {-1, 0, 0}};
        Edges.refused(7, "there is no such trip", Edges::town, miss, trips);
        int[][] calls = {{0, -1, 1}, {0, 3, 1}, {1, 2, 1}, {2, 3, 0}, {0, 8, 1}, {0, 32, 1}, {2, 34, 0}, {0, LOW, 1}, {0, HIGH, 1}};
        Edges.refused(7, "there is no such call", Edges::town, miss, calls);
        Edges.refused(7, "a trip has no calls", EdgesOfTheTablesTest::withTripsOfEachKind, miss, new int[][] {{3, 0, 1}, {5, 0, 0}});
    }

    /** Each of eight calls: missed, again, not, again; the others are as they were. */
    private static void missTellsWhetherItWas() {
        ConnectionDesk x = Edges.desk(8);
        Edges.addTrip(x, 1, 1, 0, 10, 10, 1, 20, 20, 2, 30, 30, 3, 40, 40, 4, 50, 50, 5, 60, 60, 6, 70, 70, 7, 80, 80);
        for (int k = 0; k < 8; k++) {
            Edges.due(7, "0 if it was not, call " + k, x.miss(0, k, true), 0);
            Edges.due(7, "1 if it was, call " + k, x.miss(0, k, true), 1);
            for (int s = 0; s < 8; s++) {
                Edges.due(7, "call " + k + " alone is MISSED", x.table(s, 5, 0, 1), s == k ? -1 : s);
            }
            Edges.due(7, "1 if it was, call " + k, x.miss(0, k, false), 1);
            Edges.due(7, "0 if it was not, call " + k, x.miss(0, k, false), 0);
        }
    }

    private static void missAtTheEndsOfARide() {
        ConnectionDesk x = Edges.desk(3);
        Edges.addTrip(x, 0, 0, 0, 10, 10, 1, 20, 20, 2, 30, 30);
        int[][] rides = {{0, 1}, {0, 2}, {1, 2}};
        for (int k = 0; k < 3; k++) {
            x.miss(0, k, true);
            for (int[] r : rides) {
                int due = r[0] == k || r[1] == k ? 0 : 1;
                Edges.due(7, "call " + k + " is MISSED, from " + r[0] + " to " + r[1], x.ways(r[0], r[1], 0, 0), due);
            }
            x.miss(0, k, false);
        }
        x.miss(0, 1, true);
        Edges.due(7, "on all days", x.ways(0, 1, 98, 0), 0);
    }

    // ---- Promise 8: walk

    private static void walkRefused() {
        Edges.Call walk = (x, a) -> x.walk(a[0], a[1], a[2]);
        int[][] stops = {{-1, 0, 5}, {3, 0, 5}, {0, -1, 5}, {0, 3, 5}, {LOW, 0, 5}, {HIGH, 0, 5}, {0, LOW, 5}, {0, HIGH, 5}, {12, 0, 5}, {-1, -1, 5}};
        Edges.refused(8, "there is no such stop", Edges::town, walk, stops);
        Edges.refused(8, "both are the same", Edges::town, walk, new int[][] {{0, 0, 5}, {1, 1, 1}, {2, 2, 240}});
        int[][] minutes = {{0, 1, 0}, {0, 1, 241}, {0, 1, -1}, {0, 1, LOW}, {0, 1, HIGH}, {2, 1, 0}};
        Edges.refused(8, "the minutes are not 1..240", Edges::town, walk, minutes);
        Edges.refused(8, "there are 20", Edges::fullTown, walk, new int[][] {{0, 1, 1}, {11, 0, 240}, {0, 0, 1}});
    }

    private static void walkUpToTwenty() {
        ConnectionDesk x = Edges.desk(12);
        for (int w = 0; w < 20; w++) {
            Edges.due(8, "no such walk yet", x.shuttle(w, 0, 0, 1), -2);
            Edges.due(8, "its number, of 20", x.walk(w % 12, 11 - w % 12, w % 2 == 0 ? 1 : 240), w);
            Edges.due(8, "so many there are", x.count(2), w + 1);
        }
        Edges.due(8, "-2 when there are 20", x.walk(0, 1, 1), -2);
        Edges.due(8, "the last one is a WALK", x.shuttle(19, 0, 0, 1), 3);
    }

    private static void walkAsShortAndAsLongAsCanBe() {
        ConnectionDesk x = Edges.desk(3);
        x.walk(0, 1, 1);
        x.walk(1, 2, 240);
        Edges.due(8, "of a minute", x.ways(0, 1, 7, 1439), 1);
        Edges.dueLeg(8, "over midnight", x, 0, 0, 3, 0, 0, 1, 8 * 1440 - 1, 8 * 1440, -1, -1, -1);
        Edges.due(8, "of 240 minutes", x.ways(1, 2, 99, 1439), 1);
        Edges.dueLeg(8, "beyond day 99", x, 0, 0, 3, 1, 1, 2, 143999, 144239, -1, -1, -1);
        Edges.due(8, "not back", x.ways(1, 0, 0, 0), 0);
        Edges.due(8, "no two in a row", x.ways(0, 2, 0, 0), 0);
    }

    // ---- Promise 9: shuttle

    private static void shuttleRefused() {
        Edges.Call shuttle = (x, a) -> x.shuttle(a[0], a[1], a[2], a[3]);
        int[][] walks = {{-1, 0, 0, 1}, {3, 0, 0, 1}, {20, 0, 0, 1}, {LOW, 0, 0, 1}, {HIGH, 0, 0, 1}};
        Edges.refused(9, "there is no such walk", Edges::town, shuttle, walks);
        int[][] firsts = {{0, -1, 5, 1}, {1, -1, 1439, 1}, {0, 1440, 1440, 1}, {2, LOW, 5, 1}, {0, HIGH, HIGH, 1}, {0, 1440, 1439, 1}};
        Edges.refused(9, "first is not 0..1439", Edges::town, shuttle, firsts);
        int[][] lasts = {{0, 5, 4, 1}, {1, 0, -1, 1}, {0, 5, 1440, 1}, {2, 1439, 1440, 1}, {0, 1439, 1438, 1}, {0, 5, LOW, 1}, {0, 5, HIGH, 1}};
        Edges.refused(9, "last is not first..1439", Edges::town, shuttle, lasts);
        int[][] every = {{0, 5, 5, 0}, {1, 5, 5, -1}, {2, 5, 5, 1441}, {0, 5, 5, LOW}, {0, 5, 5, HIGH}};
        Edges.refused(9, "every is not 1..1440", Edges::town, shuttle, every);
    }

    private static void shuttleTellsTheKindThatItWas() {
        ConnectionDesk x = Edges.desk(2);
        x.walk(0, 1, 1);
        Edges.due(9, "it was a WALK", x.shuttle(0, 0, 1439, 1440), 3);
        Edges.due(9, "it was a SHUTTLE", x.shuttle(0, 1439, 1439, 1), 4);
        x.asked(0, 1);
        Edges.due(9, "it was ASKED", x.shuttle(0, 0, 0, 1), 5);
        Edges.due(9, "it was a SHUTTLE again", x.shuttle(0, 0, 0, 1), 4);
    }

    /** Rows: first, last, every, asked for at a minute of day 5, begins at a minute of day 5. */
    private static void shuttleBegins() {
        int[][] rows = {
            {100, 130, 10, 0, 100}, {100, 130, 10, 99, 100}, {100, 130, 10, 100, 100}, {100, 130, 10, 101, 110},
            {100, 130, 10, 109, 110}, {100, 130, 10, 110, 110}, {100, 130, 10, 120, 120}, {100, 130, 10, 121, 130},
            {100, 130, 10, 130, 130}, {100, 130, 10, 131, 1540}, {100, 130, 10, 1439, 1540},
            {100, 129, 10, 121, 1540}, {100, 129, 10, 120, 120}, {100, 131, 10, 131, 1540},
            {0, 1439, 1, 0, 0}, {0, 1439, 1, 777, 777}, {0, 1439, 1, 1439, 1439},
            {0, 1439, 1440, 0, 0}, {0, 1439, 1440, 1, 1440}, {0, 1439, 1439, 1, 1439}, {0, 1438, 1439, 1, 1440},
            {0, 0, 1, 0, 0}, {0, 0, 1, 1, 1440}, {1439, 1439, 1, 0, 1439}, {1439, 1439, 1440, 1439, 1439},
            {7, 7, 1440, 7, 7}, {7, 7, 1440, 8, 1447}, {10, 30, 20, 11, 30}, {10, 30, 21, 11, 1450}};
        for (int day : new int[] {0, 5, 99}) {
            ConnectionDesk x = Edges.desk(2);
            x.walk(0, 1, 3);
            for (int[] r : rows) {
                x.shuttle(0, r[0], r[1], r[2]);
                String sentence = "first " + r[0] + ", last " + r[1] + ", every " + r[2] + ", from minute " + r[3] + " of day " + day;
                Edges.due(9, sentence, x.ways(0, 1, day, r[3]), 1);
                Edges.due(9, sentence + " begins", x.way(0, 0), 1440 * day + r[4]);
                Edges.due(9, sentence + " comes", x.way(0, 1), 1440 * day + r[4] + 3);
            }
        }
    }

    /** A beginning that a ride has just made, and one that it has missed by a minute. */
    private static void shuttleBehindARide() {
        ConnectionDesk x = Edges.desk(3);
        Edges.addTrip(x, 0, 0, 0, 10, 10, 1, 100, 105);
        x.walk(1, 2, 7);
        x.shuttle(0, 100, 140, 40);
        x.ways(0, 2, 0, 0);
        Edges.dueLeg(9, "when the ride before it comes", x, 0, 1, 4, 0, 1, 2, 100, 107, -1, -1, -1);
        x.late(0, 0, 1, 1);
        x.ways(0, 2, 0, 0);
        Edges.dueLeg(9, "at its next beginning from then on", x, 0, 1, 4, 0, 1, 2, 140, 147, -1, -1, -1);
        x.late(0, 0, 1, 40);
        x.ways(0, 2, 0, 0);
        Edges.dueLeg(9, "on the next day", x, 0, 1, 4, 0, 1, 2, 1540, 1547, -1, -1, -1);
    }

    // ---- Promise 10: asked

    private static void askedRefused() {
        Edges.Call asked = (x, a) -> x.asked(a[0], a[1]);
        int[][] walks = {{-1, 5}, {3, 5}, {20, 5}, {LOW, 5}, {HIGH, 5}};
        Edges.refused(10, "there is no such walk", Edges::town, asked, walks);
        Edges.refused(10, "it is a WALK", Edges::town, asked, new int[][] {{0, 1}, {0, 5}, {0, 600}});
        int[][] ahead = {{1, 0}, {1, 601}, {1, -1}, {2, 0}, {2, 601}, {2, LOW}, {1, HIGH}};
        Edges.refused(10, "ahead is not 1..600", Edges::town, asked, ahead);
    }

    private static void askedTellsTheKindThatItWas() {
        ConnectionDesk x = Edges.desk(2);
        x.walk(0, 1, 1);
        Edges.due(10, "-2 when it is a WALK", x.asked(0, 1), -2);
        x.shuttle(0, 0, 0, 1);
        Edges.due(10, "it was a SHUTTLE", x.asked(0, 1), 4);
        Edges.due(10, "it was ASKED", x.asked(0, 600), 5);
        Edges.due(10, "it was ASKED again", x.asked(0, 600), 5);
        x.shuttle(0, 0, 0, 1);
        Edges.due(10, "it was told anew as a SHUTTLE", x.asked(0, 1), 4);
    }

    /** Rows: first, last, every, ahead, asked for at a minute, begins at. */
    private static void askedBegins() {
        int[][] rows = {
            {100, 100, 1, 1, 99, 100}, {100, 100, 1, 1, 100, 1540}, {100, 100, 1, 600, 0, 1540},
            {600, 600, 1, 600, 0, 600}, {600, 600, 1, 600, 1, 2040}, {0, 1439, 30, 60, 30, 90},
            {0, 1439, 30, 60, 31, 120}, {0, 1439, 30, 60, 29, 90}, {0, 1439, 1, 1, 0, 1}, {0, 1439, 1, 600, 839, 1439},
            {0, 1439, 1, 600, 840, 1440}, {0, 1439, 1, 600, 1439, 2039}, {10, 20, 5, 600, 850, 1450},
            {10, 20, 5, 600, 851, 1455}, {10, 20, 5, 600, 860, 1460}};
        for (int day : new int[] {0, 99}) {
            ConnectionDesk x = Edges.desk(2);
            x.walk(0, 1, 3);
            for (int[] r : rows) {
                x.shuttle(0, r[0], r[1], r[2]);
                x.asked(0, r[3]);
                String sentence = "first " + r[0] + ", last " + r[1] + ", every " + r[2] + ", ahead " + r[3] + ", asked for at " + r[4];
                Edges.due(10, sentence, x.ways(0, 1, day, r[4]), 1);
                Edges.due(10, sentence + " begins", x.way(0, 0), 1440 * day + r[5]);
            }
        }
    }

    /** 600 minutes ahead of a beginning that is behind the end of the next day's last one. */
    private static void askedTooLateForTheNextDay() {
        ConnectionDesk x = Edges.desk(2);
        x.walk(0, 1, 240);
        x.shuttle(0, 540, 540, 1);
        x.asked(0, 540);
        Edges.due(10, "AHEAD of the TIME of the question", x.ways(0, 1, 3, 0), 1);
        Edges.due(10, "that day", x.way(0, 0), 3 * 1440 + 540);
        x.asked(0, 541);
        x.ways(0, 1, 3, 0);
        Edges.due(10, "the next day", x.way(0, 0), 4 * 1440 + 540);
        x.shuttle(0, 1199, 1199, 1);
        x.asked(0, 1);
        Edges.due(10, "comes before the end of the next day", x.ways(0, 1, 3, 1199), 1);
        x.shuttle(0, 1200, 1200, 1);
        Edges.due(10, "not at the end of it, as a SHUTTLE", x.ways(0, 1, 3, 1201), 0);
        x.asked(0, 600);
        Edges.due(10, "not at the end of it, as ASKED", x.ways(0, 1, 3, 601), 0);
        Edges.due(10, "in time for the same day", x.ways(0, 1, 3, 600), 1);
    }

    /** Behind a ride it counts from the question, not from when the ride comes. */
    private static void askedBehindARide() {
        ConnectionDesk x = Edges.desk(3);
        Edges.addTrip(x, 0, 0, 0, 500, 500, 1, 550, 550);
        x.walk(1, 2, 10);
        x.shuttle(0, 0, 1439, 10);
        x.asked(0, 60);
        x.ways(0, 2, 0, 490);
        Edges.due(10, "so many minutes behind the question", x.leg(0, 1, 4), 550);
        x.ways(0, 2, 0, 491);
        Edges.due(10, "or more", x.leg(0, 1, 4), 560);
        x.ways(0, 2, 0, 0);
        Edges.due(10, "long ago", x.leg(0, 1, 4), 550);
    }

    // ---- Promise 11: late

    private static void lateRefused() {
        Edges.Call late = (x, a) -> x.late(a[0], a[1], a[2], a[3]);
        int[][] trips = {{-1, 1, 0, 1}, {3, 1, 0, 1}, {24, 1, 0, 1}, {LOW, 1, 0, 1}, {HIGH, 1, 0, 1}};
        Edges.refused(11, "there is no such trip", Edges::town, late, trips);
        int[][] days = {{0, -1, 0, 1}, {0, 100, 0, 1}, {0, LOW, 0, 1}, {0, HIGH, 0, 1}, {2, -99, 0, 240}};
        Edges.refused(11, "there is no such day", Edges::town, late, days);
        int[][] calls = {{0, 1, -1, 1}, {0, 1, 3, 1}, {1, 1, 2, 1}, {0, 1, 8, 1}, {0, 1, LOW, 1}, {0, 1, HIGH, 1}};
        Edges.refused(11, "there is no such call", Edges::town, late, calls);
        int[][] minutes = {{0, 1, 0, 0}, {0, 1, 0, 241}, {0, 1, 0, -1}, {0, 1, 0, LOW}, {0, 1, 0, HIGH}};
        Edges.refused(11, "the minutes are not 1..240", Edges::town, late, minutes);
        Edges.refused(11, "60 such were told", Edges::fullTown, late, new int[][] {{0, 1, 0, 1}, {2, 99, 2, 240}, {1, 1, 0, 3}, {0, 1, 0, 0}});
        Edges.refused(11, "a trip has no calls", EdgesOfTheTablesTest::withTripsOfEachKind, late, new int[][] {{3, 1, 0, 1}});
    }

    /** Sixty of all trips and days together; each tells the sum at its call. */
    private static void lateUpToSixty() {
        ConnectionDesk x = Edges.desk(2);
        Edges.addTrip(x, 0, 0, 0, 10, 10, 1, 20, 20);
        Edges.addTrip(x, 1, 1, 0, 10, 10, 1, 20, 20);
        for (int n = 0; n < 60; n++) {
            Edges.due(11, "how much it is LATE there", x.late(n % 2, n % 4 / 2 * 99, 0, 240), 240 * (n / 4 + 1));
            Edges.due(11, "so many were told", x.count(6), n + 1);
        }
        Edges.due(11, "-2 when 60 were told", x.late(0, 0, 0, 1), -2);
        Edges.due(11, "also of another trip and day", x.late(1, 50, 1, 1), -2);
        Edges.due(25, "it stays as LATE as it was", x.table(0, 0, 0, 3), 10 + 15 * 240);
    }

    private static void lateAtCallsUpToThat() {
        ConnectionDesk x = Edges.desk(3);
        Edges.addTrip(x, 0, 0, 0, 10, 12, 1, 20, 22, 2, 30, 32);
        Edges.due(11, "a minute at the last call", x.late(0, 99, 2, 1), 1);
        int[][] first = {{0, 10, 12}, {1, 20, 22}, {2, 31, 33}};
        for (int[] r : first) {
            Edges.due(11, "comes, at stop " + r[0], x.table(r[0], 99, 0, 2), r[1]);
            Edges.due(11, "leaves, at stop " + r[0], x.table(r[0], 99, 0, 3), r[2]);
        }
        Edges.due(11, "240 at the first call", x.late(0, 99, 0, 240), 240);
        Edges.due(11, "at call 1 it was none of its own", x.late(0, 99, 1, 7), 247);
        int[][] then = {{0, 250, 252}, {1, 267, 269}, {2, 278, 280}};
        for (int[] r : then) {
            Edges.due(11, "comes then, at stop " + r[0], x.table(r[0], 99, 0, 2), r[1]);
            Edges.due(11, "leaves then, at stop " + r[0], x.table(r[0], 99, 0, 3), r[2]);
        }
        Edges.due(11, "all together at the last call", x.late(0, 99, 2, 1), 249);
        Edges.due(11, "not on the day before", x.table(2, 98, 0, 2), 30);
        Edges.due(11, "not on day 0", x.late(0, 0, 2, 5), 5);
    }

    /** Ten days late is the most there can be; nine days on one is still in time for it. */
    private static void lateByTenDays() {
        ConnectionDesk x = Edges.desk(2);
        Edges.addTripOf(x, 2, 1, 1, 0, 2879, 2879, 1, 2879, 2879);
        for (int n = 0; n < 60; n++) {
            x.late(0, 0, 0, 240);
        }
        x.gone(0, 7, true);
        int time = 2879 + 14400;
        Edges.due(11, "a NIGHT of day 0 on day 11", x.ways(0, 1, 11, 1439), 1);
        Edges.dueLeg(11, "of day 0", x, 0, 0, 2, 0, 0, 1, time, time, 0, 0, 1);
        Edges.due(11, "asked for the day before", x.ways(0, 1, 10, 0), 1);
        Edges.due(11, "asked for two days before", x.ways(0, 1, 9, 1439), 0);
        Edges.due(11, "asked for behind it", x.ways(0, 1, 12, 0), 0);
        Edges.due(21, "the latest one for it", x.latest(0, 1, 11, time), 1439);
        Edges.due(22, "one comes there", x.reach(0, 11, 1439, 0), 3);
    }

    private static void lateOnADayOnWhichItDoesNotRun() {
        ConnectionDesk x = Edges.desk(2);
        Edges.addTripOf(x, 0, 1, 0, 0, 10, 10, 1, 20, 20);
        Edges.due(11, "of another KIND of day", x.late(0, 1, 0, 5), 5);
        Edges.due(11, "it does not RUN for that", x.ways(0, 1, 1, 0), 0);
        x.day(1, 0);
        Edges.due(11, "it is LATE once it RUNS", x.ways(0, 1, 1, 0), 1);
        Edges.due(11, "by so much", x.way(0, 0), 1455);
        x.gone(0, 1, true);
        Edges.due(11, "also when it is GONE", x.late(0, 1, 0, 5), 10);
    }

    // ---- Promise 12: gone

    private static void goneRefused() {
        Edges.Call gone = (x, a) -> x.gone(a[0], a[1], a[2] != 0);
        int[][] trips = {{-1, 1, 1}, {3, 1, 1}, {24, 1, 1}, {32, 1, 1}, {34, 2, 0}, {LOW, 1, 1}, {HIGH, 1, 1}, {-1, 2, 0}};
        Edges.refused(12, "there is no such trip", Edges::town, gone, trips);
        int[][] days = {{0, -1, 1}, {0, 100, 1}, {2, 102, 0}, {0, LOW, 1}, {0, HIGH, 1}, {2, -1, 0}};
        Edges.refused(12, "there is no such day", Edges::town, gone, days);
    }

    private static void goneTellsWhetherItWas() {
        ConnectionDesk x = new ConnectionDesk();
        for (int t = 0; t < 24; t++) {
            x.trip(0, 127, 0);
        }
        for (int t : new int[] {0, 1, 22, 23}) {
            for (int d : new int[] {0, 1, 98, 99}) {
                Edges.due(12, "0 if it was not", x.gone(t, d, false), 0);
                Edges.due(12, "0 if it was not", x.gone(t, d, true), 0);
                Edges.due(12, "1 if it was", x.gone(t, d, true), 1);
            }
        }
        for (int t : new int[] {0, 1, 22, 23}) {
            for (int d : new int[] {0, 1, 98, 99}) {
                Edges.due(12, "1 if it was", x.gone(t, d, false), 1);
                Edges.due(12, "0 if it was not", x.gone(t, d, false), 0);
            }
        }
        Edges.due(12, "the others were not", x.gone(2, 0, true) + x.gone(0, 2, true), 0);
    }

    private static void goneOnADayDoesNotRun() {
        ConnectionDesk x = Edges.desk(2);
        Edges.addTrip(x, 0, 0, 0, 10, 10, 1, 20, 20);
        x.gone(0, 99, true);
        Edges.due(12, "GONE on the last day", x.ways(0, 1, 99, 0), 0);
        Edges.due(12, "not on the day before", x.ways(0, 1, 98, 10), 1);
        Edges.due(12, "from there no next day's", x.ways(0, 1, 98, 11), 0);
        x.gone(0, 99, false);
        Edges.due(12, "back", x.ways(0, 1, 98, 11), 1);
        Edges.due(12, "of that day", x.leg(0, 0, 6), 99);
    }

    public static void main(String[] args) {
        newHasNoStops();
        newHasNoTrips();
        newHasNoWalks();
        newHasFaresOfZero();
        newHasDaysBySeven();
        newHasNoWays();
        newHasNoTickets();
        newIsNoOther();
        stopRefused();
        stopUpToTwelve();
        stopHasItsChange();
        stopHasItsZone();
        fareRefused();
        fareTellsWhatItWas();
        fareUpToTwentySeven();
        dayRefused();
        dayTellsWhatItWas();
        dayDecidesWhatRuns();
        tripRefused();
        tripUpToTwentyFour();
        tripRunsByItsBits();
        tripHasSeats();
        tripWithFewCalls();
        callRefused();
        callUpToEight();
        callAtTheEndsOfItsDay();
        callAtOneStopTwice();
        missRefused();
        missTellsWhetherItWas();
        missAtTheEndsOfARide();
        walkRefused();
        walkUpToTwenty();
        walkAsShortAndAsLongAsCanBe();
        shuttleRefused();
        shuttleTellsTheKindThatItWas();
        shuttleBegins();
        shuttleBehindARide();
        askedRefused();
        askedTellsTheKindThatItWas();
        askedBegins();
        askedTooLateForTheNextDay();
        askedBehindARide();
        lateRefused();
        lateUpToSixty();
        lateAtCallsUpToThat();
        lateByTenDays();
        lateOnADayOnWhichItDoesNotRun();
        goneRefused();
        goneTellsWhetherItWas();
        goneOnADayDoesNotRun();
        Edges.end(1, 12);
    }
}
