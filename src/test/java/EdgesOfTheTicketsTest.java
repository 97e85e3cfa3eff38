/** The edges that the promises 16 to 20 name: tickets, and the places that they take. */
public final class EdgesOfTheTicketsTest {
    private static final int LOW = Edges.LOW;
    private static final int HIGH = Edges.HIGH;

    // ---- Promise 16: take

    private static void takeRefused() {
        Edges.Call take = (x, a) -> x.take(a[0]);
        int[][] ways = {{-1}, {2}, {3}, {58}, {LOW}, {HIGH}};
        Edges.refused(16, "there is no such way", Edges::town, take, ways);
        Edges.refused(16, "30 tickets were made", Edges::fullTown, take, new int[][] {{0}, {1}, {-1}});
        Edges.refused(16, "no place is left", EdgesOfTheTicketsTest::townWithoutAPlace, take, new int[][] {{0}});
    }

    /** The way at hand rides trip 1, whose two seats are taken. */
    private static ConnectionDesk townWithoutAPlace() {
        ConnectionDesk x = Edges.town();
        Edges.due(16, "the last place", x.take(0), 3);
        return x;
    }

    private static void takeWithNoneAtHand() {
        ConnectionDesk x = Edges.desk(2);
        Edges.due(16, "no ways at first", x.take(0), -2);
        x.ways(0, 1, 0, 0);
        Edges.due(16, "no ways were found", x.take(0), -2);
        x.ways(0, 0, 0, 0);
        Edges.due(16, "a way without legs", x.take(0), 0);
        Edges.due(16, "no way behind the last", x.take(1), -2);
        x.walk(0, 1, 5);
        x.ways(0, 1, 0, 0);
        Edges.due(16, "a walk alone", x.take(0), 1);
        Edges.due(26, "tickets", x.count(4), 2);
    }

    /** Thirty are made, whether they were given back or not, and whatever they ride. */
    private static void takeUpToThirty() {
        for (int given = 0; given < 2; given++) {
            ConnectionDesk x = Edges.desk(2);
            Edges.addTrip(x, 1, 50, 0, 10, 10, 1, 20, 20);
            x.ways(0, 1, 0, 0);
            for (int n = 0; n < 30; n++) {
                Edges.due(16, "no such ticket yet", x.still(n), -2);
                Edges.due(16, "its number, of 30", x.take(0), n);
                if (given == 1) {
                    Edges.due(17, "given back", x.give(n), 1);
                }
            }
            Edges.due(16, "-2 when 30 tickets were made", x.take(0), -2);
            Edges.due(20, "its place is not taken", x.taken(0, 0, 0), given == 1 ? 0 : 30);
            x.give(0);
            Edges.due(16, "also when one was given back", x.take(0), -2);
            x.ways(0, 0, 0, 0);
            Edges.due(16, "also without legs", x.take(0), -2);
            Edges.due(26, "tickets that were made", x.count(4), 30);
            Edges.due(26, "tickets that were not given back", x.count(5), given == 1 ? 0 : 29);
        }
    }

    /** From where it gets on to that before it gets off, of eight calls. */
    private static void takePlacesFromOnToBeforeOff() {
        int[][] rides = {{0, 1}, {0, 7}, {3, 5}, {6, 7}};
        for (int kind = 0; kind <= 2; kind++) {
            for (int[] r : rides) {
                ConnectionDesk x = Edges.desk(8);
                x.trip(kind, 127, kind == 0 ? 0 : 1);
                for (int s = 0; s < 8; s++) {
                    x.call(0, s, 10 * s, 10 * s);
                }
                x.ways(r[0], r[1], 7, 0);
                x.take(0);
                for (int k = 0; k < 8; k++) {
                    int due = kind != 0 && k >= r[0] && k < r[1] ? 1 : 0;
                    Edges.due(16, "KIND " + kind + " from " + r[0] + " to " + r[1] + ", call " + k, x.taken(0, 7, k), due);
                    Edges.due(20, "not on the days around", x.taken(0, 6, k) + x.taken(0, 8, k), 0);
                }
            }
        }
    }

    /** The way at hand goes over three calls; another one has taken the place at one of them since. */
    private static void takeWhenNoPlaceIsLeftAtOneCall() {
        for (int full = 0; full < 5; full++) {
            ConnectionDesk x = Edges.desk(6);
            Edges.addTripOf(x, 1, 1, 1, 0, 0, 0, 1, 10, 10, 2, 20, 20, 3, 30, 30, 4, 40, 40, 5, 50, 50);
            x.ways(full, full + 1, 0, 0);
            x.take(0);
            x.give(0);
            x.ways(1, 4, 0, 0);
            Edges.due(16, "a place is left", x.take(0), 1);
            x.give(1);
            x.ways(full, full + 1, 0, 0);
            x.take(0);
            boolean over = full >= 1 && full < 4;
            Edges.due(13, "call " + full + " is full", x.ways(1, 4, 0, 0), over ? 0 : 1);
            Edges.due(16, "call " + full + " is full", x.take(0), over ? -2 : 3);
        }
    }

    /** A way at hand is not asked for again: its place may be gone since, and its trip, too. */
    private static void takeAsAllIsSince() {
        ConnectionDesk x = Edges.desk(3);
        Edges.addTripOf(x, 1, 1, 2, 0, 10, 10, 1, 20, 20);
        Edges.addTripOf(x, 2, 1, 1, 1, 30, 30, 2, 40, 40);
        x.ways(0, 2, 0, 0);
        Edges.due(16, "both trips have places", x.take(0), 0);
        Edges.due(16, "the second has none", x.take(0), -2);
        Edges.due(16, "nothing is taken in the first for that", x.taken(0, 0, 0), 1);
        Edges.due(16, "none was made", x.count(4), 1);
        x.give(0);
        x.gone(0, 0, true);
        x.miss(1, 0, true);
        x.late(0, 0, 0, 240);
        Edges.due(16, "GONE, MISSED and LATE is no reason", x.take(0), 1);
        Edges.due(18, "although it can't be travelled", x.still(1), 1);
    }

    /** Stops 1 0 2 1 3 at one minute: 0 to 1 is call 1 to 3, then 1 to 3 is call 0 to 4: two places at calls 1, 2. */
    private static ConnectionDesk overlapping(int seats) {
        ConnectionDesk x = new ConnectionDesk();
        for (int zone = 0; zone < 4; zone++) {
            x.stop(0, zone);
        }
        Edges.addTripOf(x, 1, 1, seats, 1, 10, 10, 0, 10, 10, 2, 10, 10, 1, 10, 10, 3, 10, 10);
        x.fare(0, 3, 9);
        x.fare(1, 3, 5);
        x.fare(0, 2, 1);
        x.fare(2, 3, 7);
        Edges.due(16, "two ways", x.ways(0, 3, 0, 0), 2);
        Edges.dueLeg(16, "the first ride", x, 1, 0, 1, 0, 0, 1, 10, 10, 0, 1, 3);
        Edges.dueLeg(16, "the second ride", x, 1, 1, 1, 0, 1, 3, 10, 10, 0, 0, 4);
        return x;
    }

    private static void takePlacesOfTheWayItself() {
        for (int seats : new int[] {1, 2, 3, 4, 49, 50}) {
            ConnectionDesk x = overlapping(seats);
            for (int n = 0; n < seats / 2; n++) {
                Edges.due(16, "two places of " + seats, x.take(1), n);
            }
            Edges.due(16, "places that the way itself takes counted", x.take(1), -2);
            int[] taken = {seats / 2, seats / 2 * 2, seats / 2 * 2, seats / 2, 0};
            for (int k = 0; k < 5; k++) {
                Edges.due(20, seats + " seats, call " + k, x.taken(0, 0, k), taken[k]);
            }
            Edges.due(16, "one place of " + seats, x.take(0), seats % 2 == 1 ? seats / 2 : -2);
            if (seats > 1) {
                Edges.due(17, "both of its places", x.give(0), 1);
                Edges.due(17, "are free", x.taken(0, 0, 1), seats - 2);
                Edges.due(17, "and the one", x.taken(0, 0, 0), seats / 2 - 1);
            }
        }
    }

    /** Off and on again at one call is one place there, for it gets off before. */
    private static void takeOneTripTwiceInARow() {
        ConnectionDesk x = new ConnectionDesk();
        x.stop(0, 0);
        x.stop(0, 1);
        x.stop(0, 2);
        x.fare(0, 2, 9);
        Edges.addTripOf(x, 1, 1, 1, 0, 10, 10, 1, 20, 20, 2, 30, 30);
        Edges.due(16, "one ride, or two for less", x.ways(0, 2, 0, 0), 2);
        Edges.due(16, "two rides", x.way(1, 2), 2);
        Edges.due(16, "a place at each call", x.take(1), 0);
        Edges.due(16, "where it gets on", x.taken(0, 0, 0), 1);
        Edges.due(16, "where it gets off and on", x.taken(0, 0, 1), 1);
        Edges.due(16, "where it gets off", x.taken(0, 0, 2), 0);
        Edges.due(16, "no place is left", x.take(0), -2);
        Edges.due(18, "its places being its own", x.still(0), 0);
    }

    /** What a longer way of an earlier question rode takes no place of a shorter one. */
    private static void takeAShorterWayThanBefore() {
        ConnectionDesk x = Edges.desk(3);
        Edges.addTripOf(x, 1, 1, 1, 0, 10, 10, 1, 20, 20);
        Edges.addTripOf(x, 1, 1, 1, 1, 30, 30, 2, 40, 40);
        Edges.due(16, "two rides", x.ways(0, 2, 0, 0), 1);
        Edges.due(16, "the second alone", x.ways(1, 2, 0, 0), 1);
        Edges.due(16, "has a place", x.take(0), 0);
        Edges.due(16, "none in the first", x.taken(0, 0, 0), 0);
        Edges.due(16, "one in the second", x.taken(1, 0, 0), 1);
        x.give(0);
        Edges.due(17, "free", x.taken(1, 0, 0), 0);
    }

    /** Two tickets of seven legs each, and one that is given back: each has its own legs. */
    private static void takeSevenLegs() {
        ConnectionDesk x = Edges.desk(8);
        for (int n = 0; n < 3; n++) {
            Edges.addTrip(x, 1, 50, 2 * n + 1, 20 * n + 5, 20 * n + 5, 2 * n + 2, 20 * n + 20, 20 * n + 20);
        }
        for (int n = 0; n < 4; n++) {
            x.walk(2 * n, 2 * n + 1, 5);
        }
        for (int n = 0; n < 3; n++) {
            x.ways(0, 7, 10 * n, 0);
            Edges.due(16, "seven legs", x.way(0, 4), 7);
            Edges.due(16, "a ticket", x.take(0), n);
        }
        for (int n = 0; n < 3; n++) {
            Edges.due(19, "its own day", x.comes(n), 14400 * n + 65);
            x.gone(2, 10 * n, true);
            Edges.due(18, "its own last ride", x.still(n), 6);
            Edges.due(20, "its own place", x.taken(2, 10 * n, 0), 1);
        }
        x.give(1);
        Edges.due(17, "those of the others stay", x.taken(2, 0, 0) + x.taken(2, 20, 0), 2);
        Edges.due(17, "its own are free", x.taken(0, 10, 0) + x.taken(1, 10, 0) + x.taken(2, 10, 0), 0);
    }

    // ---- Promise 17: give

    private static void giveRefused() {
        Edges.Call give = (x, a) -> x.give(a[0]);
        int[][] tickets = {{-1}, {3}, {30}, {LOW}, {HIGH}};
        Edges.refused(17, "there is no such ticket", Edges::town, give, tickets);
        Edges.refused(17, "it was given back", Edges::town, give, new int[][] {{1}});
        Edges.refused(17, "there is no 31st", Edges::fullTown, give, new int[][] {{30}, {31}, {1}});
    }

    private static void giveFreesItsPlaces() {
        ConnectionDesk x = Edges.desk(3);
        Edges.addTripOf(x, 1, 1, 2, 0, 10, 10, 1, 20, 20, 2, 30, 30);
        x.ways(0, 2, 0, 0);
        x.take(0);
        x.ways(1, 2, 0, 0);
        x.take(0);
        Edges.due(20, "two at call 1", x.taken(0, 0, 1), 2);
        Edges.due(16, "full", x.take(0), -2);
        Edges.due(17, "1", x.give(0), 1);
        Edges.due(17, "its place at call 0", x.taken(0, 0, 0), 0);
        Edges.due(17, "its place at call 1", x.taken(0, 0, 1), 1);
        Edges.due(17, "not twice", x.give(0), -2);
        Edges.due(17, "no place is freed twice", x.taken(0, 0, 1), 1);
        Edges.due(18, "-2 when it was given back", x.still(0), -2);
        Edges.due(19, "-2 when it was given back", x.comes(0), -2);
        Edges.due(18, "the other one stays", x.still(1), 0);
        Edges.due(16, "a new number", x.take(0), 2);
        Edges.due(17, "the last one", x.give(2), 1);
        Edges.due(17, "the one before", x.give(1), 1);
        Edges.due(17, "all are free", x.taken(0, 0, 1), 0);
        Edges.due(26, "none is out", x.count(5), 0);
        Edges.due(26, "three were made", x.count(4), 3);
    }

    // ---- Promise 18: still, and 19: comes

    private static void stillRefused() {
        Edges.Call still = (x, a) -> x.still(a[0]);
        Edges.Call comes = (x, a) -> x.comes(a[0]);
        int[][] tickets = {{-1}, {3}, {30}, {LOW}, {HIGH}};
        Edges.refused(18, "there is no such ticket", Edges::town, still, tickets);
        Edges.refused(19, "there is no such ticket", Edges::town, comes, tickets);
        Edges.refused(18, "it was given back", Edges::town, still, new int[][] {{1}});
        Edges.refused(19, "it was given back", Edges::town, comes, new int[][] {{1}});
    }

    /** A ticket for three rides; legs are 0 1 2, or, with walks around all rides, 1 3 5. */
    private static ConnectionDesk journey(boolean walks, int kind) {
        ConnectionDesk x = Edges.desk(11);
        int step = walks ? 2 : 1;
        for (int n = 0; n < 3; n++) {
            int from = step * n + (walks ? 1 : 0);
            Edges.addTripOf(x, kind, 1, kind == 0 ? 0 : 1, from, 20 * n + 10, 20 * n + 10, from, 20 * n + 10, 20 * n + 10,
                    8 + n, 20 * n + 12, 20 * n + 12, from + 1, 20 * n + 20, 20 * n + 20);
            x.miss(n, 0, true);
        }
        for (int n = 0; n < 4 && walks; n++) {
            x.walk(2 * n, 2 * n + 1, 10);
        }
        x.ways(0, walks ? 7 : 3, 0, 0);
        Edges.due(16, "a ticket", x.take(0), 0);
        Edges.due(18, "0 if it can", x.still(0), 0);
        Edges.due(19, "when it comes", x.comes(0), walks ? 70 : 60);
        return x;
    }

    /** 1 and the number of the first leg that can't be, of each ride and each reason. */
    private static void stillTellsTheFirstLegThatCantBe() {
        for (int form = 0; form < 6; form++) {
            boolean walks = form % 2 == 1;
            for (int n = 0; n < 3; n++) {
                int due = walks ? 2 + 2 * n : 1 + n;
                ConnectionDesk x = journey(walks, form / 2);
                x.gone(n, 0, true);
                Edges.due(18, "GONE that day, ride " + n, x.still(0), due);
                Edges.due(19, "-1 when still() is not 0", x.comes(0), -1);
                x.gone(n, 0, false);
                x.gone(n, 1, true);
                Edges.due(18, "GONE on another day", x.still(0), 0);
                for (int k = 0; k < 4; k++) {
                    x.miss(n, k, true);
                    Edges.due(18, "call " + k + " MISSED, ride " + n, x.still(0), k == 1 || k == 3 ? due : 0);
                    x.miss(n, k, k == 0);
                }
                Edges.due(18, "as it was", x.still(0), 0);
                x.late(n, 0, 3, walks ? 1 : 11);
                int next = n == 2 ? 0 : walks ? due + 2 : due + 1;
                Edges.due(18, "LATE for the next ride, ride " + n, x.still(0), next);
                Edges.due(19, "LATE, ride " + n, x.comes(0), n == 2 ? 71 : -1);
            }
        }
    }

    private static void stillTellsTheFirstOfSeveral() {
        ConnectionDesk x = journey(true, 1);
        x.gone(2, 0, true);
        Edges.due(18, "the last ride", x.still(0), 6);
        x.miss(1, 3, true);
        Edges.due(18, "and the second", x.still(0), 4);
        x.day(0, 1);
        Edges.due(18, "none RUNS that day", x.still(0), 2);
        x.day(0, 0);
        x.miss(1, 3, false);
        x.gone(2, 0, false);
        Edges.due(18, "all as it was", x.still(0), 0);
    }

    /** The ride leaves just when one can get on, and a minute before. */
    private static void stillByTheChange() {
        for (int change : new int[] {0, 1, 30}) {
            ConnectionDesk x = new ConnectionDesk();
            x.stop(30, 0);
            x.stop(change, 0);
            x.stop(30, 0);
            Edges.addTripOf(x, 0, 1, 0, 0, 10, 10, 1, 20, 20);
            Edges.addTripOf(x, 0, 1, 0, 1, 50, 60, 2, 70, 70);
            x.ways(0, 2, 0, 10);
            x.take(0);
            if (change < 30) {
                x.late(0, 0, 1, 30 - change);
            }
            x.late(0, 0, 1, 10);
            Edges.due(18, "CHANGE " + change + " is just gone", x.still(0), 0);
            Edges.due(19, "CHANGE " + change + " is just gone", x.comes(0), 70);
            x.late(0, 0, 1, 1);
            Edges.due(18, "CHANGE " + change + " a minute too late", x.still(0), 2);
            Edges.due(19, "CHANGE " + change + " a minute too late", x.comes(0), -1);
            x.late(1, 0, 0, 1);
            Edges.due(18, "CHANGE " + change + ", the next one is LATE, too", x.still(0), 0);
            Edges.due(19, "CHANGE " + change + ", the next one is LATE, too", x.comes(0), 71);
        }
    }

    /** Full by its own place: that is no reason. */
    private static void stillByItsOwnPlaces() {
        ConnectionDesk x = Edges.desk(2);
        Edges.addTripOf(x, 2, 1, 1, 0, 10, 10, 1, 20, 20);
        x.ways(0, 1, 0, 0);
        x.take(0);
        Edges.due(13, "it is full", x.ways(0, 1, 0, 0), 0);
        Edges.due(18, "its places being its own", x.still(0), 0);
        Edges.due(19, "its places being its own", x.comes(0), 20);
    }

    /** A ticket of walks alone, or without legs, can always be travelled. */
    private static void stillWithoutRides() {
        ConnectionDesk x = Edges.desk(2);
        x.walk(0, 1, 5);
        x.ways(0, 0, 99, 1439);
        x.take(0);
        x.ways(0, 1, 99, 1439);
        x.take(0);
        Edges.due(18, "without legs", x.still(0), 0);
        Edges.due(19, "without legs, at the question's TIME", x.comes(0), 143999);
        Edges.due(18, "a walk", x.still(1), 0);
        Edges.due(19, "a walk", x.comes(1), 144004);
        x.shuttle(0, 1439, 1439, 1);
        Edges.due(19, "a SHUTTLE now, at once", x.comes(1), 144004);
        x.shuttle(0, 1438, 1438, 1);
        Edges.due(18, "a walk always can", x.still(1), 0);
        Edges.due(19, "on day 100", x.comes(1), 145438 + 5);
        x.asked(0, 600);
        Edges.due(19, "ASKED in time for it", x.comes(1), 145438 + 5);
        x.shuttle(0, 599, 599, 1);
        x.asked(0, 600);
        Edges.due(19, "just AHEAD of it", x.comes(1), 144000 + 599 + 5);
        x.shuttle(0, 598, 598, 1);
        x.asked(0, 600);
        Edges.due(18, "a walk always can, beyond 1440 (d + 2)", x.still(1), 0);
        Edges.due(19, "on day 101", x.comes(1), 145440 + 598 + 5);
        Edges.due(13, "which is no way any more", x.ways(0, 1, 99, 1439), 0);
    }

    /** The ride before it comes just at a beginning, a minute behind it, and behind the last of the day. */
    private static void stillAtTheNextBeginning() {
        ConnectionDesk x = Edges.desk(3);
        Edges.addTripOf(x, 0, 2, 0, 0, 10, 10, 1, 100, 100);
        x.walk(1, 2, 5);
        x.shuttle(0, 105, 125, 10);
        x.ways(0, 2, 99, 0);
        x.take(0);
        int day = 99 * 1440;
        Edges.due(19, "as it was found", x.comes(0), day + 110);
        x.late(0, 99, 1, 5);
        Edges.due(19, "just at its beginning", x.comes(0), day + 110);
        x.late(0, 99, 1, 1);
        Edges.due(19, "at the next one", x.comes(0), day + 120);
        x.late(0, 99, 0, 19);
        Edges.due(19, "at the last one", x.comes(0), day + 130);
        x.late(0, 99, 0, 1);
        Edges.due(19, "on the next day", x.comes(0), day + 1440 + 110);
        for (int n = 0; n < 40; n++) {
            x.late(0, 99, 0, 240);
        }
        Edges.due(18, "the way may come later than 1440 (d + 2) now", x.still(0), 0);
        int ride = day + 126 + 9600;
        Edges.due(19, "days beyond 99", x.comes(0), ride - ride % 1440 + 1440 + 110);
    }

    /** A walk ahead of a ride: it counts as it is now, and the ride leaves just then or before. */
    private static void stillByAWalkThatWasToldAnew() {
        ConnectionDesk x = Edges.desk(1);
        x.stop(30, 0);
        x.stop(0, 0);
        Edges.addTripOf(x, 0, 1, 0, 1, 100, 100, 2, 110, 110);
        x.walk(0, 1, 10);
        x.shuttle(0, 60, 60, 1);
        x.ways(0, 2, 0, 50);
        x.take(0);
        x.shuttle(0, 90, 90, 1);
        Edges.due(18, "told anew, just in time", x.still(0), 0);
        x.shuttle(0, 91, 91, 1);
        Edges.due(18, "told anew, a minute too late", x.still(0), 2);
        x.shuttle(0, 49, 49, 1);
        Edges.due(18, "told anew, before the question", x.still(0), 2);
        x.shuttle(0, 50, 90, 40);
        Edges.due(18, "told anew, at the question's TIME", x.still(0), 0);
        x.asked(0, 40);
        Edges.due(18, "ASKED with the question's TIME", x.still(0), 0);
        Edges.due(19, "ASKED with the question's TIME", x.comes(0), 110);
        x.asked(0, 41);
        Edges.due(18, "ASKED a minute too late", x.still(0), 2);
        x.ways(0, 2, 0, 49);
        Edges.due(18, "another question does not matter", x.still(0), 2);
        Edges.due(16, "that has its own TIME", x.take(0), 1);
        Edges.due(18, "and can be travelled", x.still(1), 0);
    }

    // ---- Promise 20: taken

    private static void takenRefused() {
        Edges.Call taken = (x, a) -> x.taken(a[0], a[1], a[2]);
        int[][] trips = {{-1, 1, 0}, {3, 1, 0}, {24, 1, 0}, {LOW, 1, 0}, {HIGH, 1, 0}};
        Edges.refused(20, "there is no such trip", Edges::town, taken, trips);
        int[][] days = {{0, -1, 0}, {0, 100, 0}, {1, 101, 0}, {1, LOW, 0}, {1, HIGH, 0}};
        Edges.refused(20, "there is no such day", Edges::town, taken, days);
        int[][] calls = {{0, 1, -1}, {0, 1, 3}, {1, 1, 2}, {1, 1, 8}, {1, 1, LOW}, {1, 1, HIGH}};
        Edges.refused(20, "there is no such call", Edges::town, taken, calls);
        Edges.refused(20, "a trip has no calls", Edges::fullTown, taken, new int[][] {{23, 1, 0}});
    }

    /** Tickets of thirty days, three trips each: as many rows of places as there can be. */
    private static void takenOnNinetyTripsOfDays() {
        ConnectionDesk x = Edges.desk(4);
        for (int n = 0; n < 3; n++) {
            Edges.addTrip(x, 1, 1, n, 20 * n + 5, 20 * n + 5, n + 1, 20 * n + 20, 20 * n + 20);
        }
        for (int d = 0; d < 30; d++) {
            x.ways(0, 3, 99 - d, 0);
            Edges.due(16, "a ticket of day " + (99 - d), x.take(0), d);
        }
        for (int n = 0; n < 90; n++) {
            Edges.due(20, "trip " + n % 3 + " of day " + (99 - n / 3), x.taken(n % 3, 99 - n / 3, 0), 1);
            Edges.due(20, "where one gets off", x.taken(n % 3, 99 - n / 3, 1), 0);
        }
        Edges.due(20, "on another day", x.taken(0, 69, 0), 0);
        for (int d = 0; d < 30; d++) {
            Edges.due(17, "given back", x.give(d), 1);
        }
        for (int n = 0; n < 90; n++) {
            Edges.due(20, "free again", x.taken(n % 3, 99 - n / 3, 0), 0);
        }
    }

    private static void takenOnTheFirstAndTheLastDay() {
        ConnectionDesk x = Edges.desk(2);
        Edges.addTrip(x, 2, 2, 0, 10, 10, 1, 20, 20);
        for (int d : new int[] {0, 99}) {
            Edges.due(20, "none at first", x.taken(0, d, 0), 0);
            x.ways(0, 1, d, 0);
            x.take(0);
            Edges.due(20, "one on day " + d, x.taken(0, d, 0), 1);
        }
        Edges.due(20, "none on the days beside", x.taken(0, 1, 0) + x.taken(0, 98, 0), 0);
        x.gone(0, 0, true);
        Edges.due(20, "also when it is GONE", x.taken(0, 0, 0), 1);
        x.miss(0, 0, true);
        Edges.due(20, "also when the call is MISSED", x.taken(0, 99, 0), 1);
    }

    public static void main(String[] args) {
        takeRefused();
        takeWithNoneAtHand();
        takeUpToThirty();
        takePlacesFromOnToBeforeOff();
        takeWhenNoPlaceIsLeftAtOneCall();
        takeAsAllIsSince();
        takePlacesOfTheWayItself();
        takeOneTripTwiceInARow();
        takeAShorterWayThanBefore();
        takeSevenLegs();
        giveRefused();
        giveFreesItsPlaces();
        stillRefused();
        stillTellsTheFirstLegThatCantBe();
        stillTellsTheFirstOfSeveral();
        stillByTheChange();
        stillByItsOwnPlaces();
        stillWithoutRides();
        stillAtTheNextBeginning();
        stillByAWalkThatWasToldAnew();
        takenRefused();
        takenOnNinetyTripsOfDays();
        takenOnTheFirstAndTheLastDay();
        Edges.end(16, 20);
    }
}
