/** The edges that the promises 13 to 15 name, with the terms 2 to 4 that they stand on. */
public final class EdgesOfTheWaysTest {
    private static final int LOW = Edges.LOW;
    private static final int HIGH = Edges.HIGH;

    // ---- Promise 13: ways, refused and empty ones

    private static void waysRefused() {
        Edges.Call ways = (x, a) -> x.ways(a[0], a[1], a[2], a[3]);
        int[][] from = {{-1, 0, 1, 0}, {3, 0, 1, 0}, {12, 0, 1, 0}, {LOW, 0, 1, 0}, {HIGH, 0, 1, 0}};
        Edges.refused(13, "there is no such stop from which", Edges::town, ways, from);
        int[][] to = {{0, -1, 1, 0}, {0, 3, 1, 0}, {0, 12, 1, 0}, {0, LOW, 1, 0}, {0, HIGH, 1, 0}, {3, 3, 1, 0}};
        Edges.refused(13, "there is no such stop to which", Edges::town, ways, to);
        int[][] days = {{0, 1, -1, 0}, {0, 1, 100, 0}, {0, 0, -1, 1439}, {0, 1, LOW, 0}, {0, 1, HIGH, 0}};
        Edges.refused(13, "there is no such day", Edges::town, ways, days);
        int[][] minutes = {{0, 1, 1, -1}, {0, 1, 1, 1440}, {0, 0, 99, 1440}, {0, 1, 1, LOW}, {0, 1, 1, HIGH}};
        Edges.refused(13, "the minute is not 0..1439", Edges::town, ways, minutes);
    }

    private static void waysAtHandStayWhenRefused() {
        ConnectionDesk x = Edges.desk(2);
        x.walk(0, 1, 5);
        Edges.due(13, "one", x.ways(0, 1, 2, 3), 1);
        Edges.due(13, "refused", x.ways(0, 1, 2, 1440), -2);
        Edges.due(13, "those at hand stay then", x.count(3), 1);
        Edges.dueWay(13, "as they were", x, 0, 2883, 2888, 0, 0, 1);
        Edges.due(13, "refused", x.ways(0, 2, 7, 0), -2);
        Edges.due(16, "it can still be taken", x.take(0), 0);
        Edges.due(19, "with its own question's TIME", x.comes(0), 2888);
    }

    /** latest(), reach() and meet() ask for ways, too, but those at hand stay, with their question's TIME. */
    private static void waysAtHandStayByOtherQuestions() {
        ConnectionDesk x = Edges.desk(2);
        x.walk(0, 1, 5);
        x.shuttle(0, 0, 1439, 10);
        x.asked(0, 30);
        x.ways(0, 1, 2, 3);
        Edges.due(21, "another question", x.latest(0, 1, 50, HIGH), 1439);
        Edges.due(22, "another question", x.reach(0, 60, 7, 40), 3);
        Edges.due(23, "another question", x.meet(3, 70, 9), 1);
        Edges.due(13, "those at hand stay", x.count(3), 1);
        Edges.dueWay(13, "as they were", x, 0, 2920, 2925, 0, 0, 1);
        Edges.due(16, "it can be taken", x.take(0), 0);
        Edges.due(19, "ASKED with the question's TIME", x.comes(0), 2925);
        x.ways(0, 1, 80, 0);
        Edges.due(19, "also behind another question", x.comes(0), 2925);
    }

    private static void waysThatThereAreNone() {
        ConnectionDesk x = Edges.desk(2);
        x.walk(0, 1, 5);
        x.ways(0, 1, 0, 0);
        Edges.due(13, "no way back", x.ways(1, 0, 0, 0), 0);
        Edges.due(13, "none is at hand from now on", x.count(3), 0);
        Edges.due(14, "no such way", x.way(0, 0), -2);
        Edges.due(15, "no such way", x.leg(0, 0, 0), -2);
        Edges.due(16, "no such way", x.take(0), -2);
        Edges.due(13, "the first minute of the first day", x.ways(0, 1, 0, 0), 1);
        Edges.due(13, "the last minute of the last day", x.ways(0, 1, 99, 1439), 1);
    }

    private static void waysToWhereOneIs() {
        int[][] times = {{0, 0}, {0, 1439}, {99, 0}, {99, 1439}};
        for (int[] t : times) {
            ConnectionDesk x = Edges.desk(2);
            Edges.addTrip(x, 0, 0, 0, t[1], t[1], 0, t[1], t[1]);
            x.walk(0, 1, 1);
            x.walk(1, 0, 1);
            int time = 1440 * t[0] + t[1];
            Edges.due(13, "without legs, no other one", x.ways(0, 0, t[0], t[1]), 1);
            Edges.dueWay(14, "without legs", x, 0, time, time, 0, 0, 0);
            Edges.due(15, "it has no leg 0", x.leg(0, 0, 0), -2);
            Edges.due(15, "nor one below", x.leg(0, -1, 0), -2);
        }
    }

    // ---- Promise 13 by term 4: rides and walks of a way

    private static void threeRidesAtMost() {
        ConnectionDesk x = Edges.desk(5);
        for (int n = 0; n < 4; n++) {
            Edges.addTrip(x, 0, 0, n, 100 + 10 * n, 100 + 10 * n, n + 1, 105 + 10 * n, 105 + 10 * n);
        }
        Edges.due(13, "two rides", x.ways(0, 2, 0, 100), 1);
        Edges.due(13, "two", x.way(0, 2), 2);
        Edges.due(13, "three rides", x.ways(0, 3, 0, 100), 1);
        Edges.dueWay(13, "three", x, 0, 100, 125, 3, 0, 3);
        Edges.due(13, "rides, 3 at most", x.ways(0, 4, 0, 100), 0);
        Edges.due(22, "rides, 3 at most", x.reach(0, 0, 100, HIGH), 15);
        Edges.due(21, "rides, 3 at most", x.latest(0, 4, 0, HIGH), -1);
        Edges.due(23, "rides, 3 at most", x.meet(17, 0, 100), -1);
    }

    /** One walk at each place where one can be, and never two in a row. */
    private static void aWalkOrNone() {
        ConnectionDesk x = Edges.desk(8);
        for (int n = 0; n < 3; n++) {
            Edges.addTrip(x, 0, 0, 2 * n + 1, 20 * n + 5, 20 * n + 5, 2 * n + 2, 20 * n + 20, 20 * n + 20);
        }
        for (int n = 0; n < 4; n++) {
            x.walk(2 * n, 2 * n + 1, 5);
        }
        Edges.due(13, "a walk at each place", x.ways(0, 7, 0, 0), 1);
        Edges.dueWay(13, "seven legs", x, 0, 0, 65, 3, 0, 7);
        Edges.due(15, "the last leg", x.leg(0, 6, 1), 3);
        Edges.due(15, "none behind it", x.leg(0, 7, 1), -2);
        Edges.due(13, "without rides a walk", x.ways(0, 1, 0, 0), 1);
        Edges.due(13, "one leg", x.way(0, 4), 1);
        ConnectionDesk y = Edges.desk(5);
        y.walk(0, 1, 5);
        y.walk(1, 2, 5);
        y.walk(3, 4, 5);
        Edges.addTrip(y, 0, 0, 2, 50, 50, 3, 60, 60);
        Edges.due(13, "without rides no two walks", y.ways(0, 2, 0, 0), 0);
        Edges.due(13, "no two walks ahead of a ride", y.ways(0, 3, 0, 0), 0);
        y.walk(4, 0, 5);
        Edges.due(13, "a walk behind a ride", y.ways(2, 4, 0, 0), 1);
        Edges.due(13, "no two walks behind a ride", y.ways(2, 0, 0, 0), 0);
        Edges.addTrip(y, 0, 0, 1, 100, 100, 4, 110, 110);
        Edges.due(13, "no two walks between rides", y.ways(2, 1, 0, 0), 0);
    }

    /** A trip that comes again to where it was: a ride of its own between two walks. */
    private static void aRideToWhereItBegan() {
        ConnectionDesk x = Edges.desk(3);
        x.walk(0, 1, 5);
        x.walk(1, 2, 5);
        Edges.due(13, "no two walks", x.ways(0, 2, 0, 0), 0);
        Edges.addTripOf(x, 0, 1, 0, 1, 20, 20, 1, 30, 30);
        Edges.due(13, "a ride between them", x.ways(0, 2, 0, 0), 1);
        Edges.dueWay(13, "from a stop to itself", x, 0, 0, 35, 1, 0, 3);
        Edges.dueLeg(15, "from a stop to itself", x, 0, 1, 0, 0, 1, 1, 20, 30, 0, 0, 1);
    }

    private static void tripsOfAnyOfTheDays() {
        ConnectionDesk x = Edges.desk(2);
        Edges.addTripOf(x, 2, 127, 1, 0, 1440, 1445, 1, 1450, 1450);
        Edges.due(13, "on day 0 nothing of a day before", x.ways(0, 1, 0, 0), 1);
        Edges.due(13, "its own day's at night", x.way(0, 0), 1445);
        x.ways(0, 1, 1, 5);
        Edges.due(13, "of the day before", x.leg(0, 0, 6), 0);
        x.ways(0, 1, 1, 6);
        Edges.due(13, "of the same day", x.leg(0, 0, 6), 1);
        Edges.due(13, "on the last day", x.ways(0, 1, 99, 6), 1);
        Edges.due(13, "of day 99 on day 100", x.way(0, 0), 99 * 1440 + 1445);
        ConnectionDesk y = Edges.desk(2);
        Edges.addTrip(y, 0, 0, 0, 5, 5, 1, 9, 9);
        Edges.due(13, "of day 99", y.ways(0, 1, 99, 5), 1);
        Edges.due(13, "there is no day 100", y.ways(0, 1, 99, 6), 0);
        Edges.due(13, "of the next day", y.ways(0, 1, 98, 6), 1);
        Edges.due(13, "day 99", y.leg(0, 0, 6), 99);
        Edges.due(13, "of day 0", y.ways(0, 1, 0, 0), 1);
        Edges.due(13, "day 0", y.leg(0, 0, 6), 0);
    }

    /**
     * As many trips of days as can count for a question: of 24 NIGHTS those of the day before, of the day
     * and of the next one, which is the only one in time; and beside them those that are LATE so long.
     */
    private static void tripsOfManyDays() {
        ConnectionDesk x = Edges.desk(3);
        for (int t = 0; t < 24; t++) {
            x.trip(2, 127, 1);
            x.call(t, 0, 0, 0);
            x.call(t, t == 23 ? 2 : 1, 700, 700);
            x.call(t, 1, 2879, 2879);
        }
        for (int t = 0; t < 24; t++) {
            Edges.due(11, "LATE to the question's day", x.late(t, 48, 2, 240), 240);
        }
        for (int n = 0; n < 36; n++) {
            Edges.due(11, "LATE by more than a day", x.late(n / 7, 47, 2, 240), 240 * (n % 7 + 1));
        }
        Edges.due(13, "of the next day, the greatest trip", x.ways(0, 2, 50, 1), 1);
        Edges.dueLeg(13, "of the next day", x, 0, 0, 2, 23, 0, 2, 51 * 1440, 51 * 1440 + 700, 51, 0, 1);
        Edges.due(22, "of the next day", x.reach(0, 50, 1, 2139), 7);
        Edges.due(21, "of the next day", x.latest(0, 2, 50, 51 * 1440 + 700), 1439);
        Edges.due(13, "of the day, from call 1 on", x.ways(2, 1, 50, 0), 1);
        Edges.due(13, "the night of the day before is gone by", x.leg(0, 0, 6), 50);
    }

    private static void getsOnNotBeforeTheQuestion() {
        ConnectionDesk x = Edges.desk(2);
        Edges.addTripOf(x, 0, 1, 0, 0, 100, 105, 1, 110, 110);
        x.stop(30, 0);
        Edges.due(13, "just at t", x.ways(0, 1, 0, 105), 1);
        Edges.due(13, "a minute behind it", x.ways(0, 1, 0, 106), 0);
        Edges.due(13, "when it has come, but not left", x.ways(0, 1, 0, 103), 1);
        Edges.dueLeg(15, "at the TIME when it leaves", x, 0, 0, 0, 0, 0, 1, 105, 110);
        x.late(0, 0, 0, 1);
        Edges.due(13, "LATE by a minute", x.ways(0, 1, 0, 106), 1);
        Edges.due(13, "and no more", x.ways(0, 1, 0, 107), 0);
    }

    private static void getsOnNotBeforeTheWalkComes() {
        for (int kind = 3; kind <= 5; kind++) {
            ConnectionDesk x = Edges.desk(1);
            x.stop(30, 0);
            x.stop(0, 0);
            Edges.addTripOf(x, 0, 1, 0, 1, 115, 115, 2, 120, 120);
            x.walk(0, 1, 15);
            if (kind > 3) {
                x.shuttle(0, 100, 100, 1);
            }
            if (kind > 4) {
                x.asked(0, 10);
            }
            int latest = kind == 5 ? 90 : 100;
            Edges.due(13, "KIND " + kind + " comes when the ride leaves", x.ways(0, 2, 0, latest), 1);
            Edges.due(13, "KIND " + kind + " a minute too late", x.ways(0, 2, 0, latest + 1), 0);
            Edges.due(21, "KIND " + kind, x.latest(0, 2, 0, 120), latest);
            x.late(0, 0, 0, 1);
            Edges.due(13, "KIND " + kind + " the ride is LATE", x.ways(0, 2, 0, latest + 1), kind == 3 ? 1 : 0);
        }
    }

    /** One trip all the time: to get off and on again needs the CHANGE, too. */
    private static void changesWithinOneTrip() {
        for (int stay = 4; stay <= 5; stay++) {
            ConnectionDesk x = new ConnectionDesk();
            x.stop(0, 0);
            x.stop(5, 1);
            x.stop(0, 2);
            x.fare(0, 1, 1);
            x.fare(1, 2, 1);
            x.fare(0, 2, 9);
            Edges.addTripOf(x, 0, 1, 0, 0, 10, 10, 1, 20, 20 + stay, 2, 30, 30);
            Edges.due(13, "CHANGE 5, it stays for " + stay, x.ways(0, 2, 0, 0), stay == 5 ? 2 : 1);
            Edges.dueWay(13, "one ride", x, 0, 10, 30, 1, 9, 1);
            if (stay == 5) {
                Edges.dueWay(13, "two rides, of the same arrival", x, 1, 10, 30, 2, 2, 2);
                Edges.dueLeg(15, "of the same trip", x, 1, 1, 0, 0, 1, 2, 25, 30, 0, 1, 2);
            }
        }
    }

    private static void changeGoneAtTheSecondAndThirdRide() {
        ConnectionDesk x = new ConnectionDesk();
        x.stop(30, 0);
        x.stop(3, 0);
        x.stop(7, 0);
        x.stop(30, 0);
        Edges.addTripOf(x, 0, 1, 0, 0, 10, 10, 1, 20, 20);
        Edges.addTripOf(x, 0, 1, 0, 1, 23, 23, 2, 30, 30);
        Edges.addTripOf(x, 0, 1, 0, 2, 37, 37, 3, 40, 40);
        Edges.due(13, "each CHANGE is just gone", x.ways(0, 3, 0, 10), 1);
        Edges.due(13, "no CHANGE where it begins or ends", x.way(0, 1), 40);
        x.late(0, 0, 1, 1);
        Edges.due(13, "not that of the second ride", x.ways(0, 3, 0, 10), 0);
        x.late(1, 0, 0, 1);
        Edges.due(13, "not that of the third ride", x.ways(0, 3, 0, 10), 0);
        x.late(2, 0, 0, 1);
        Edges.due(13, "all are LATE alike", x.ways(0, 3, 0, 10), 1);
    }

    /** A walk from a stop to another one instead of the CHANGE, be it shorter or longer. */
    private static void noChangeBehindAWalk() {
        ConnectionDesk x = new ConnectionDesk();
        x.stop(0, 0);
        x.stop(30, 0);
        x.stop(30, 0);
        x.stop(0, 0);
        Edges.addTripOf(x, 0, 1, 0, 0, 10, 10, 1, 20, 20);
        Edges.addTripOf(x, 0, 1, 0, 2, 21, 21, 3, 30, 30);
        x.walk(1, 2, 1);
        Edges.due(13, "behind a walk no CHANGE", x.ways(0, 3, 0, 10), 1);
        Edges.dueWay(13, "of a minute", x, 0, 10, 30, 2, 0, 3);
        x.late(0, 0, 1, 1);
        Edges.due(13, "a minute too late", x.ways(0, 3, 0, 10), 0);
    }

    // ---- Promise 13 by term 4: it must come before 1440 (d + 2)

    private static void comesBeforeTheEndByARide() {
        for (int day : new int[] {0, 49, 98}) {
            ConnectionDesk x = Edges.desk(2);
            x.day(day, 6);
            x.day(day + 1, 5);
            Edges.addTripOf(x, 0, 32, 0, 0, 1430, 1430, 1, 1439, 1439);
            Edges.due(13, "at the last minute of the next day", x.ways(0, 1, day, 0), 1);
            Edges.due(13, "before 1440 (d + 2)", x.way(0, 1), 1440 * (day + 2) - 1);
            x.late(0, day + 1, 1, 1);
            Edges.due(13, "not at 1440 (d + 2)", x.ways(0, 1, day, 0), 0);
            Edges.due(13, "d being the day of t", x.ways(0, 1, day + 1, 0), 1);
            Edges.due(13, "at 1440 (d + 1)", x.way(0, 1), 1440 * (day + 2));
        }
    }

    private static void comesBeforeTheEndByANight() {
        ConnectionDesk x = Edges.desk(2);
        Edges.addTripOf(x, 2, 127, 1, 0, 2879, 2879, 1, 2879, 2879);
        Edges.due(13, "of the day itself, at its very end", x.ways(0, 1, 99, 1439), 1);
        Edges.dueWay(13, "in no time", x, 0, 101 * 1440 - 1 - 1440, 101 * 1440 - 1 - 1440, 1, 0, 1);
        x.gone(0, 98, true);
        Edges.due(13, "of day 99", x.ways(0, 1, 99, 1439), 1);
        Edges.due(13, "the last TIME there is", x.way(0, 1), 101 * 1440 - 1);
        x.late(0, 99, 0, 1);
        Edges.due(13, "a minute later", x.ways(0, 1, 99, 1439), 0);
    }

    private static void comesBeforeTheEndByAWalk() {
        for (int kind = 3; kind <= 5; kind++) {
            ConnectionDesk x = Edges.desk(3);
            Edges.addTripOf(x, 2, 1, 1, 0, 1441, 1441, 1, 2700, 2700);
            x.walk(1, 2, 179);
            x.walk(1, 2, 180);
            for (int w = 0; w < 2 && kind > 3; w++) {
                x.shuttle(w, 1260, 1260, 1);
                if (kind == 5) {
                    x.asked(w, 600);
                }
            }
            Edges.due(13, "before the end of the next day, KIND " + kind, x.ways(0, 2, 0, 0), 1);
            Edges.due(13, "by the shorter walk", x.leg(0, 1, 1), 0);
            Edges.due(13, "at its last minute", x.way(0, 1), 2879);
            x.late(0, 0, 1, 1);
            Edges.due(13, "a minute later, KIND " + kind, x.ways(0, 2, 0, 0), 0);
        }
    }

    // ---- Promise 13 by term 2: places

    private static void placesFromICallToTheOneBeforeJ() {
        for (int kind = 1; kind <= 2; kind++) {
            ConnectionDesk x = Edges.desk(5);
            x.trip(kind, 1, 1);
            for (int s = 0; s < 5; s++) {
                x.call(0, s, 10 * s, 10 * s);
            }
            x.ways(2, 3, 0, 0);
            x.take(0);
            int[][] rides = {{0, 1, 1}, {0, 2, 1}, {1, 2, 1}, {0, 3, 0}, {1, 3, 0}, {2, 3, 0}, {2, 4, 0}, {0, 4, 0}, {3, 4, 1}};
            for (int[] r : rides) {
                Edges.due(13, "call 2 is full, from " + r[0] + " to " + r[1], x.ways(r[0], r[1], 0, 0), r[2]);
            }
            x.give(0);
            Edges.due(13, "none is TAKEN", x.ways(0, 4, 0, 0), 1);
        }
    }

    /** The trip comes twice to where one gets on; between lies a call that is full. */
    private static void placesFromALaterCallOn() {
        for (int seats = 1; seats <= 2; seats++) {
            ConnectionDesk x = Edges.desk(3);
            Edges.addTripOf(x, 1, 1, seats, 0, 10, 10, 1, 20, 20, 0, 30, 30, 2, 40, 40);
            x.ways(1, 0, 0, 0);
            x.take(0);
            x.ways(0, 2, 0, 0);
            Edges.dueLeg(13, "SEATS " + seats, x, 0, 0, 1, 0, 0, 2, seats == 1 ? 30 : 10, 40, 0, seats == 1 ? 2 : 0, 3);
        }
    }

    /** The trip comes twice to where one gets off; between lies a call that is full. */
    private static void placesToASoonerCall() {
        ConnectionDesk x = Edges.desk(3);
        Edges.addTripOf(x, 2, 1, 1, 0, 10, 10, 1, 20, 20, 2, 30, 30, 1, 40, 40);
        x.ways(1, 2, 0, 0);
        x.take(0);
        x.ways(0, 1, 0, 0);
        Edges.dueLeg(13, "up to the full call", x, 0, 0, 2, 0, 0, 1, 10, 20, 0, 0, 1);
        x.miss(0, 1, true);
        Edges.due(13, "over the full call", x.ways(0, 1, 0, 0), 0);
    }

    private static void placesAreOfADay() {
        ConnectionDesk x = Edges.desk(2);
        Edges.addTrip(x, 1, 1, 0, 10, 10, 1, 20, 20);
        x.ways(0, 1, 98, 0);
        x.take(0);
        x.ways(0, 1, 98, 0);
        Edges.due(13, "the next day's has places", x.leg(0, 0, 6), 99);
        x.take(0);
        Edges.due(13, "no place is left on both", x.ways(0, 1, 98, 0), 0);
        Edges.due(22, "no place is left on both", x.reach(0, 98, 0, HIGH), 1);
        Edges.due(21, "no place is left on both", x.latest(0, 1, 98, HIGH), -1);
        Edges.due(23, "no place is left on both", x.meet(3, 98, 0), -1);
        Edges.due(13, "the day before has", x.ways(0, 1, 97, 0), 1);
    }

    // ---- Promise 13: which ways no other one beats

    /** Rows of two trips: comes and fare zone of each; how many ways there are. */
    private static void beatenWhenBetterInOne() {
        int[][] rows = {
            {50, 1, 50, 1, 1}, {50, 1, 51, 1, 1}, {50, 1, 50, 2, 1}, {50, 2, 51, 1, 2}, {50, 1, 51, 2, 1}, {51, 1, 50, 2, 2}};
        for (int[] r : rows) {
            ConnectionDesk x = new ConnectionDesk();
            x.stop(0, 0);
            x.stop(0, 1);
            x.stop(0, 2);
            x.stop(0, 3);
            x.fare(0, 1, 1);
            x.fare(0, 2, 2);
            x.walk(1, 3, 1);
            x.walk(2, 3, 1);
            Edges.addTripOf(x, 0, 1, 0, 0, 10, 10, r[1], r[0], r[0]);
            Edges.addTripOf(x, 0, 1, 0, 0, 10, 10, r[3], r[2], r[2]);
            String sentence = "comes " + r[0] + " for " + r[1] + ", and " + r[2] + " for " + r[3];
            Edges.due(13, sentence, x.ways(0, 3, 0, 0), r[4]);
            Edges.due(13, sentence + ", the first", x.way(0, 1), Math.min(r[0], r[2]) + 1);
            Edges.due(13, sentence + ", the last", x.way(r[4] - 1, 3), Math.min(r[1], r[3]));
        }
    }

    /** Rows: when one ride comes and its fare, when the two rides come, their fare is 2; how many. */
    private static void beatenByFewerRides() {
        int[][] rows = {{50, 2, 50, 1}, {50, 3, 50, 2}, {50, 1, 50, 1}, {51, 2, 50, 2}, {49, 2, 50, 1}, {49, 3, 50, 2}, {51, 1, 50, 2}, {51, 3, 50, 2}};
        for (int[] r : rows) {
            ConnectionDesk x = new ConnectionDesk();
            x.stop(0, 0);
            x.stop(0, 1);
            x.stop(0, 2);
            x.fare(0, 1, 1);
            x.fare(1, 2, 1);
            x.fare(0, 2, r[1]);
            Edges.addTripOf(x, 0, 1, 0, 0, 10, 10, 1, 20, 20);
            Edges.addTripOf(x, 0, 1, 0, 1, 20, 20, 2, r[2], r[2]);
            Edges.addTripOf(x, 0, 1, 0, 0, 10, 10, 2, r[0], r[0]);
            String sentence = "one ride at " + r[0] + " for " + r[1] + ", two at " + r[2] + " for 2";
            Edges.due(13, sentence, x.ways(0, 2, 0, 0), r[3]);
            boolean twoFirst = r[2] < r[0];
            Edges.due(13, sentence + ", in order by arrival, then by rides", x.way(0, 2), twoFirst ? 2 : 1);
            if (r[3] == 2) {
                Edges.due(13, sentence + ", the other one", x.way(1, 2), twoFirst ? 1 : 2);
            }
        }
    }

    /** A walk that comes when the ride does has fewer rides; one that comes later does not beat it. */
    private static void beatenByAWalk() {
        ConnectionDesk x = Edges.desk(2);
        Edges.addTripOf(x, 0, 1, 0, 0, 10, 10, 1, 50, 50);
        x.walk(0, 1, 40);
        Edges.due(13, "the walk comes when the ride comes", x.ways(0, 1, 0, 10), 1);
        Edges.due(13, "without rides", x.way(0, 2), 0);
        Edges.due(13, "the walk comes sooner", x.ways(0, 1, 0, 9), 1);
        x.walk(0, 1, 1);
        x.shuttle(1, 41, 41, 1);
        x.shuttle(0, 11, 11, 1);
        Edges.due(13, "a shuttle that comes sooner", x.ways(0, 1, 0, 10), 1);
        Edges.due(13, "its number", x.leg(0, 0, 1), 1);
        x.shuttle(1, 50, 50, 1);
        Edges.due(13, "both come later", x.ways(0, 1, 0, 10), 2);
        Edges.dueWay(13, "the ride first", x, 0, 10, 50, 1, 0, 1);
        Edges.dueWay(13, "then the lesser of two that come alike", x, 1, 11, 51, 0, 0, 1);
        Edges.due(13, "of walk 0", x.leg(1, 0, 1), 0);
    }

    /** Four rides of the same TIME for less and less: each with a ride more, in order by rides. */
    private static void inOrderByRides() {
        ConnectionDesk x = new ConnectionDesk();
        x.stop(0, 0);
        x.stop(0, 1);
        x.stop(0, 2);
        x.stop(0, 3);
        x.fare(0, 3, 9);
        x.fare(0, 2, 4);
        x.fare(2, 3, 4);
        x.fare(0, 1, 1);
        x.fare(1, 3, 9);
        x.fare(1, 2, 1);
        Edges.addTripOf(x, 0, 1, 0, 0, 10, 10, 1, 20, 20, 2, 30, 30, 3, 40, 40);
        Edges.due(13, "three of the same arrival", x.ways(0, 3, 0, 0), 3);
        Edges.dueWay(13, "one ride", x, 0, 10, 40, 1, 9, 1);
        Edges.dueWay(13, "two rides", x, 1, 10, 40, 2, 8, 2);
        Edges.dueWay(13, "three rides", x, 2, 10, 40, 3, 6, 3);
        Edges.due(14, "no fourth", x.way(3, 0), -2);
    }

    // ---- Promise 13: of equal arrival, rides and fare the lesser one, from the end backwards

    /**
     * One ride for each fare 0 to 9, two rides for each fare 9 to 18, and a walk: each comes sooner for
     * more. Stops 0 to 3 are of zones 0 to 3, so are 4 to 7, where one ends, and 8 to 11 between.
     */
    private static void oneForEachThatIsNotBeaten() {
        ConnectionDesk x = new ConnectionDesk();
        for (int s = 0; s < 12; s++) {
            x.stop(0, s % 4);
        }
        for (int n = 0; n < 16; n++) {
            x.fare(n / 4, n % 4, Math.min(n, 9));
        }
        x.walk(0, 4, 240);
        for (int zone = 1; zone < 4; zone++) {
            x.walk(0, zone, 1);
            x.walk(4 + zone, 4, 1);
            x.walk(8, 8 + zone, 1);
        }
        for (int f = 0; f < 10; f++) {
            int on = f / 4;
            int off = f % 4;
            int walk = off == 0 ? 0 : 1;
            Edges.addTripOf(x, 0, 1, 0, on, 10, 10, 4 + off, 200 - 10 * f - walk, 200 - 10 * f - walk);
            Edges.addTripOf(x, 0, 1, 0, 8 + on, 25, 25, 4 + off, 105 - 5 * f - walk, 105 - 5 * f - walk);
        }
        Edges.addTripOf(x, 0, 1, 0, 3, 5, 5, 8, 20, 20);
        Edges.due(13, "how many", x.ways(0, 4, 0, 0), 21);
        for (int i = 0; i < 20; i++) {
            int rides = i < 10 ? 2 : 1;
            Edges.due(14, "in order, way " + i + " comes", x.way(i, 1), i < 10 ? 60 + 5 * i : 10 + 10 * i);
            Edges.due(14, "in order, rides of way " + i, x.way(i, 2), rides);
            Edges.due(14, "in order, fare of way " + i, x.way(i, 3), i < 10 ? 18 - i : 19 - i);
            Edges.due(15, "the last trip of way " + i, x.leg(i, x.way(i, 4) - (x.leg(i, x.way(i, 4) - 1, 0) == 3 ? 2 : 1), 1),
                    i < 10 ? 19 - 2 * i : 38 - 2 * i);
        }
        Edges.dueWay(14, "the walk is the last", x, 20, 0, 240, 0, 0, 1);
        Edges.due(14, "no such way", x.way(21, 0), -2);
        Edges.due(26, "ways at hand", x.count(3), 21);
        Edges.due(16, "the last one can be taken", x.take(20), 0);
        Edges.due(16, "no such way", x.take(21), -2);
    }

    private static void noWalkIsLess() {
        ConnectionDesk x = Edges.desk(3);
        Edges.addTripOf(x, 0, 1, 0, 0, 10, 10, 1, 20, 20);
        Edges.addTripOf(x, 0, 1, 0, 0, 10, 10, 2, 30, 30);
        x.walk(1, 2, 10);
        x.ways(0, 2, 0, 0);
        Edges.due(13, "no walk is less than a walk behind the last ride", x.way(0, 4), 1);
        Edges.due(13, "although its trip is greater", x.leg(0, 0, 1), 1);
        ConnectionDesk y = Edges.desk(3);
        Edges.addTripOf(y, 0, 1, 0, 1, 20, 20, 2, 30, 30);
        Edges.addTripOf(y, 0, 1, 0, 0, 10, 10, 1, 15, 15);
        y.walk(0, 1, 10);
        y.ways(0, 2, 0, 10);
        Edges.due(13, "fewer rides by a walk ahead", y.way(0, 2), 1);
        y.ways(0, 2, 0, 0);
        Edges.due(13, "a walk ahead of the ride", y.way(0, 4), 2);
    }

    private static void noWalkIsLessAheadOfARide() {
        ConnectionDesk x = Edges.desk(4);
        Edges.addTripOf(x, 0, 1, 0, 0, 10, 10, 3, 20, 20);
        Edges.addTripOf(x, 0, 1, 0, 0, 10, 10, 1, 25, 25);
        Edges.addTripOf(x, 0, 1, 0, 1, 30, 30, 2, 40, 40);
        x.walk(3, 1, 5);
        x.ways(0, 2, 0, 0);
        Edges.due(13, "no walk between", x.way(0, 4), 2);
        Edges.due(13, "although the ride before is greater", x.leg(0, 0, 1), 1);
        x.gone(1, 0, true);
        x.ways(0, 2, 0, 0);
        Edges.due(13, "a walk between", x.way(0, 4), 3);
        ConnectionDesk y = Edges.desk(2);
        Edges.addTripOf(y, 0, 1, 0, 0, 10, 15, 1, 20, 20, 0, 25, 25, 1, 30, 30);
        y.miss(0, 1, true);
        y.ways(0, 1, 0, 0);
        Edges.dueLeg(13, "gets on at the lesser call", y, 0, 0, 0, 0, 0, 1, 15, 30, 0, 0, 3);
    }

    private static void lesserWalkIsLess() {
        ConnectionDesk x = Edges.desk(4);
        Edges.addTripOf(x, 0, 1, 0, 0, 10, 10, 1, 20, 20, 3, 21, 21);
        x.walk(3, 2, 9);
        x.walk(1, 2, 10);
        x.walk(1, 2, 10);
        x.ways(0, 2, 0, 0);
        Edges.due(13, "the lesser walk, although one gets off later", x.leg(0, 1, 1), 0);
        Edges.due(13, "off at call 2", x.leg(0, 0, 8), 2);
        x.miss(0, 2, true);
        x.ways(0, 2, 0, 0);
        Edges.due(13, "the lesser of two alike", x.leg(0, 1, 1), 1);
    }

    private static void lesserRideIsLess() {
        ConnectionDesk x = Edges.desk(2);
        Edges.addTripOf(x, 0, 2, 0, 0, 10, 10, 1, 60, 60);
        Edges.addTripOf(x, 2, 1, 9, 0, 1440, 1440, 1, 1500, 1500);
        Edges.addTripOf(x, 0, 2, 0, 0, 10, 10, 1, 60, 60);
        x.ways(0, 1, 1, 0);
        Edges.dueLeg(13, "of an earlier day, of a greater trip", x, 0, 0, 2, 1, 0, 1, 1440, 1500, 0, 0, 1);
        x.ways(0, 1, 1, 1);
        Edges.dueLeg(13, "of the same day the lesser trip", x, 0, 0, 0, 0, 0, 1, 1450, 1500, 1, 0, 1);
        x.gone(0, 1, true);
        x.ways(0, 1, 1, 1);
        Edges.due(13, "the greater one then", x.leg(0, 0, 1), 2);
    }

    private static void lesserCallsAreLess() {
        ConnectionDesk x = Edges.desk(3);
        Edges.addTripOf(x, 0, 1, 0, 0, 10, 10, 0, 11, 11, 2, 15, 15, 1, 20, 20, 1, 20, 20, 1, 21, 21);
        x.ways(0, 1, 0, 0);
        Edges.dueLeg(13, "gets on and off at the lesser calls", x, 0, 0, 0, 0, 0, 1, 10, 20, 0, 0, 3);
        x.miss(0, 3, true);
        x.ways(0, 1, 0, 0);
        Edges.dueLeg(13, "gets off at a later call", x, 0, 0, 0, 0, 0, 1, 10, 20, 0, 0, 4);
        x.miss(0, 0, true);
        x.ways(0, 1, 0, 0);
        Edges.dueLeg(13, "gets on at a later call", x, 0, 0, 0, 0, 0, 1, 11, 20, 0, 1, 4);
        x.miss(0, 4, true);
        x.ways(0, 1, 0, 0);
        Edges.dueLeg(13, "gets off later still", x, 0, 0, 0, 0, 0, 1, 11, 21, 0, 1, 5);
    }

    /** Two ways from end to end: the one with the lesser last ride has the greater first one. */
    private static void theEndDecidesFirst() {
        ConnectionDesk x = Edges.desk(4);
        Edges.addTripOf(x, 0, 1, 0, 0, 10, 10, 1, 20, 20);
        Edges.addTripOf(x, 0, 1, 0, 2, 30, 30, 3, 40, 40);
        Edges.addTripOf(x, 0, 1, 0, 1, 30, 30, 3, 40, 40);
        Edges.addTripOf(x, 0, 1, 0, 0, 10, 10, 2, 20, 20);
        x.ways(0, 3, 0, 0);
        Edges.due(13, "the lesser last ride", x.leg(0, 1, 1), 1);
        Edges.due(13, "with the greater first one", x.leg(0, 0, 1), 3);
        x.gone(3, 0, true);
        x.ways(0, 3, 0, 0);
        Edges.due(13, "the greater last ride", x.leg(0, 1, 1), 2);
        Edges.due(13, "with the lesser first one", x.leg(0, 0, 1), 0);
    }

    // ---- Promise 14: way

    private static void wayRefused() {
        Edges.Call way = (x, a) -> x.way(a[0], a[1]);
        int[][] ways = {{-1, 0}, {3, 0}, {4, 4}, {58, 0}, {LOW, 0}, {HIGH, 0}};
        Edges.refused(14, "there is no such way", EdgesOfTheWaysTest::threeWays, way, ways);
        int[][] whats = {{0, -1}, {0, 5}, {2, 5}, {2, -1}, {0, LOW}, {1, HIGH}};
        Edges.refused(14, "there is no such what", EdgesOfTheWaysTest::threeWays, way, whats);
    }

    private static ConnectionDesk threeWays() {
        ConnectionDesk x = Edges.town();
        Edges.addTrip(x, 0, 0, 0, 500, 500, 2, 520, 520);
        Edges.due(13, "three ways", x.ways(0, 2, 1, 470), 3);
        return x;
    }

    /** The soonest is the dearest; a walk and a ride; a ride and a shuttle. */
    private static void wayOfThree() {
        ConnectionDesk x = threeWays();
        Edges.dueWay(14, "a ride", x, 0, 1940, 1960, 1, 9, 1);
        Edges.dueWay(14, "a walk and a ride", x, 1, 1910, 1973, 1, 3, 2);
        Edges.dueWay(14, "a ride and a shuttle", x, 2, 1920, 1980, 1, 2, 2);
    }

    private static void wayWhenItsFirstLegBegins() {
        ConnectionDesk x = Edges.desk(2);
        x.walk(0, 1, 10);
        x.ways(0, 1, 3, 7);
        Edges.dueWay(14, "a WALK begins at t", x, 0, 4327, 4337, 0, 0, 1);
        x.shuttle(0, 6, 6, 1);
        x.ways(0, 1, 3, 7);
        Edges.dueWay(14, "a SHUTTLE at its next beginning", x, 0, 5766, 5776, 0, 0, 1);
        x.asked(0, 600);
        x.ways(0, 1, 3, 847);
        Edges.due(13, "no beginning in time", x.count(3), 0);
        x.ways(0, 1, 3, 846);
        Edges.dueWay(14, "ASKED at the next that can be", x, 0, 5766, 5776, 0, 0, 1);
        Edges.addTripOf(x, 0, 8, 0, 0, 900, 905, 1, 910, 910);
        x.ways(0, 1, 3, 846);
        Edges.dueWay(14, "a ride when it leaves", x, 0, 3 * 1440 + 905, 3 * 1440 + 910, 1, 0, 1);
        Edges.dueWay(14, "the walk comes behind it", x, 1, 5766, 5776, 0, 0, 1);
    }

    /** All is changed that a way was made of: what was found stays. */
    private static void wayAsItWasFound() {
        ConnectionDesk x = Edges.desk(3);
        x.fare(0, 0, 4);
        Edges.addTrip(x, 1, 1, 0, 10, 10, 1, 20, 20);
        x.walk(1, 2, 5);
        x.shuttle(0, 30, 30, 1);
        x.ways(0, 2, 6, 0);
        for (int round = 0; round < 2; round++) {
            Edges.dueWay(14, "as it was found", x, 0, 8650, 8675, 1, 4, 2);
            Edges.dueLeg(15, "as it was found", x, 0, 0, 1, 0, 0, 1, 8650, 8660, 6, 0, 1);
            Edges.dueLeg(15, "as it was found", x, 0, 1, 4, 0, 1, 2, 8670, 8675, -1, -1, -1);
            x.fare(0, 0, 0);
            x.late(0, 6, 0, 100);
            x.miss(0, 0, true);
            x.gone(0, 6, true);
            x.day(6, 0);
            x.shuttle(0, 700, 700, 1);
            x.asked(0, 600);
            x.latest(0, 1, 3, HIGH);
            x.reach(1, 5, 0, HIGH);
            x.meet(7, 4, 0);
            x.stop(0, 0);
            x.trip(0, 1, 0);
        }
        Edges.due(16, "a ticket as it was found", x.take(0), 0);
        Edges.due(20, "with its place", x.taken(0, 6, 0), 1);
    }

    // ---- Promise 15: leg

    private static void legRefused() {
        Edges.Call leg = (x, a) -> x.leg(a[0], a[1], a[2]);
        int[][] ways = {{-1, 0, 0}, {3, 0, 0}, {58, 0, 0}, {LOW, 0, 0}, {HIGH, 0, 0}};
        Edges.refused(15, "there is no such way", EdgesOfTheWaysTest::threeWays, leg, ways);
        int[][] legs = {{0, -1, 0}, {0, 1, 0}, {1, 2, 0}, {2, 2, 0}, {2, 7, 0}, {1, -1, 0}, {0, LOW, 0}, {1, HIGH, 8}};
        Edges.refused(15, "there is no such leg", EdgesOfTheWaysTest::threeWays, leg, legs);
        int[][] whats = {{0, 0, -1}, {0, 0, 9}, {1, 0, 9}, {1, 0, LOW}, {0, 0, HIGH}};
        Edges.refused(15, "there is no such what", EdgesOfTheWaysTest::threeWays, leg, whats);
    }

    /** A leg of each of the six KINDS in one way but for one: three rides, three walks. */
    private static void legOfEachKind() {
        ConnectionDesk x = Edges.desk(7);
        x.walk(0, 1, 10);
        Edges.addTripOf(x, 0, 1, 0, 1, 20, 25, 2, 30, 31);
        x.walk(2, 3, 10);
        x.shuttle(1, 40, 40, 1);
        Edges.addTripOf(x, 1, 1, 2, 6, 1, 1, 3, 60, 65, 4, 70, 71);
        x.walk(4, 5, 10);
        x.shuttle(2, 80, 80, 1);
        x.asked(2, 80);
        Edges.addTripOf(x, 2, 1, 3, 5, 1500, 1505, 6, 1510, 1511);
        Edges.due(13, "one way", x.ways(0, 6, 0, 0), 1);
        int[][] legs = {
            {3, 0, 0, 1, 0, 10, -1, -1, -1}, {0, 0, 1, 2, 25, 30, 0, 0, 1}, {4, 1, 2, 3, 40, 50, -1, -1, -1},
            {1, 1, 3, 4, 65, 70, 0, 1, 2}, {5, 2, 4, 5, 80, 90, -1, -1, -1}, {2, 2, 5, 6, 1505, 1510, 0, 0, 1}};
        for (int k = 0; k < legs.length; k++) {
            Edges.dueLeg(15, "leg " + k, x, 0, k, legs[k]);
        }
        Edges.due(15, "no leg behind the last", x.leg(0, 6, 0), -2);
        Edges.due(14, "its legs", x.way(0, 4), 6);
    }

    /** What a longer way had does not show behind the end of a shorter one. */
    private static void legOfAShorterWay() {
        ConnectionDesk x = Edges.desk(3);
        Edges.addTrip(x, 0, 0, 0, 10, 10, 1, 20, 20);
        Edges.addTrip(x, 0, 0, 1, 30, 30, 2, 40, 40);
        x.ways(0, 2, 0, 0);
        Edges.due(15, "leg 1", x.leg(0, 1, 1), 1);
        x.ways(0, 1, 0, 0);
        Edges.due(15, "no leg 1 any more", x.leg(0, 1, 1), -2);
        x.ways(0, 0, 0, 0);
        Edges.due(15, "no leg 0 any more", x.leg(0, 0, 1), -2);
    }

    public static void main(String[] args) {
        waysRefused();
        waysAtHandStayWhenRefused();
        waysAtHandStayByOtherQuestions();
        waysThatThereAreNone();
        waysToWhereOneIs();
        threeRidesAtMost();
        aWalkOrNone();
        aRideToWhereItBegan();
        tripsOfAnyOfTheDays();
        tripsOfManyDays();
        getsOnNotBeforeTheQuestion();
        getsOnNotBeforeTheWalkComes();
        changesWithinOneTrip();
        changeGoneAtTheSecondAndThirdRide();
        noChangeBehindAWalk();
        comesBeforeTheEndByARide();
        comesBeforeTheEndByANight();
        comesBeforeTheEndByAWalk();
        placesFromICallToTheOneBeforeJ();
        placesFromALaterCallOn();
        placesToASoonerCall();
        placesAreOfADay();
        beatenWhenBetterInOne();
        beatenByFewerRides();
        beatenByAWalk();
        inOrderByRides();
        oneForEachThatIsNotBeaten();
        noWalkIsLess();
        noWalkIsLessAheadOfARide();
        lesserWalkIsLess();
        lesserRideIsLess();
        lesserCallsAreLess();
        theEndDecidesFirst();
        wayRefused();
        wayOfThree();
        wayWhenItsFirstLegBegins();
        wayAsItWasFound();
        legRefused();
        legOfEachKind();
        legOfAShorterWay();
        Edges.end(13, 15);
    }
}
