/** The edges that the promises 21 to 26 name: the latest way, who can be where, tables and counts. */
public final class EdgesOfTheQuestionsTest {
    private static final int LOW = Edges.LOW;
    private static final int HIGH = Edges.HIGH;

    // ---- Promise 21: latest

    private static void latestRefused() {
        Edges.Call latest = (x, a) -> x.latest(a[0], a[1], a[2], a[3]);
        int[][] stops = {{-1, 0, 1, 2000}, {3, 0, 1, 2000}, {0, -1, 1, 2000}, {0, 3, 1, 2000}, {LOW, 0, 1, HIGH}, {0, HIGH, 1, HIGH}, {12, 12, 1, 0}};
        Edges.refused(21, "there is no such stop", Edges::town, latest, stops);
        int[][] days = {{0, 1, -1, 2000}, {0, 1, 100, HIGH}, {0, 0, -1, LOW}, {0, 1, LOW, 0}, {0, 1, HIGH, 0}};
        Edges.refused(21, "there is no such day", Edges::town, latest, days);
    }

    private static void latestByAnyTime() {
        ConnectionDesk x = Edges.desk(2);
        x.walk(0, 1, 10);
        for (int d : new int[] {0, 1, 99}) {
            int day = 1440 * d;
            Edges.due(21, "long before", x.latest(0, 1, d, LOW), -1);
            Edges.due(21, "below TIME 0", x.latest(0, 1, d, -1), -1);
            Edges.due(21, "a minute before the first way comes", x.latest(0, 1, d, day + 9), -1);
            Edges.due(21, "when the first way comes: minute 0", x.latest(0, 1, d, day + 10), 0);
            Edges.due(21, "minute 1", x.latest(0, 1, d, day + 11), 1);
            Edges.due(21, "minute 1023", x.latest(0, 1, d, day + 1033), 1023);
            Edges.due(21, "minute 1024", x.latest(0, 1, d, day + 1034), 1024);
            Edges.due(21, "a minute before the last", x.latest(0, 1, d, day + 1448), 1438);
            Edges.due(21, "the last minute", x.latest(0, 1, d, day + 1449), 1439);
            Edges.due(21, "no minute behind the last", x.latest(0, 1, d, day + 1450), 1439);
            Edges.due(21, "any TIME", x.latest(0, 1, d, HIGH), 1439);
        }
    }

    private static void latestToWhereOneIs() {
        ConnectionDesk x = Edges.desk(1);
        Edges.due(21, "a minute before the day", x.latest(0, 0, 7, 7 * 1440 - 1), -1);
        Edges.due(21, "its first minute", x.latest(0, 0, 7, 7 * 1440), 0);
        Edges.due(21, "its last minute", x.latest(0, 0, 7, 8 * 1440 - 1), 1439);
        Edges.due(21, "behind it", x.latest(0, 0, 7, 8 * 1440), 1439);
        Edges.due(21, "TIME 0", x.latest(0, 0, 0, 0), 0);
    }

    private static void latestWhenThereIsNone() {
        ConnectionDesk x = Edges.desk(3);
        Edges.addTripOf(x, 2, 1, 1, 0, 1500, 1500, 1, 2879, 2879);
        Edges.due(21, "no way there", x.latest(0, 2, 0, HIGH), -1);
        Edges.due(21, "no way back", x.latest(1, 0, 0, HIGH), -1);
        Edges.due(21, "before the end of the next day", x.latest(0, 1, 0, HIGH), 1439);
        Edges.due(21, "just when it comes", x.latest(0, 1, 0, 2879), 1439);
        Edges.due(21, "a minute before that", x.latest(0, 1, 0, 2878), -1);
        Edges.due(21, "the day after", x.latest(0, 1, 1, HIGH), 60);
        x.late(0, 0, 1, 1);
        Edges.due(21, "which must be before 1440 (d + 2)", x.latest(0, 1, 0, HIGH), -1);
        Edges.due(21, "of the next day it may", x.latest(0, 1, 1, HIGH), 60);
        Edges.due(21, "not a minute before", x.latest(0, 1, 1, 2879), -1);
        Edges.due(21, "just then", x.latest(0, 1, 1, 2880), 60);
        x.gone(0, 0, true);
        Edges.due(21, "none RUNS", x.latest(0, 1, 1, HIGH), -1);
    }

    /** Of three rides the latest one that still makes it; the ways at hand stay as they are. */
    private static void latestOfSeveral() {
        ConnectionDesk x = Edges.desk(2);
        Edges.addTripOf(x, 0, 1, 0, 0, 0, 0, 1, 50, 50);
        Edges.addTripOf(x, 0, 1, 0, 0, 700, 700, 1, 740, 740);
        Edges.addTripOf(x, 0, 1, 0, 0, 1439, 1439, 1, 1439, 1439);
        Edges.addTripOf(x, 0, 2, 0, 0, 5, 5, 1, 9, 9);
        x.ways(0, 1, 0, 0);
        int[][] rows = {{49, -1}, {50, 0}, {739, 0}, {740, 700}, {1438, 700}, {1439, 1439}, {1449, 1439}, {HIGH, 1439}};
        for (int[] r : rows) {
            Edges.due(21, "by " + r[0], x.latest(0, 1, 0, r[0]), r[1]);
        }
        Edges.due(21, "those at hand stay", x.count(3), 1);
        Edges.due(21, "as they were", x.way(0, 1), 50);
        Edges.due(21, "the next day", x.latest(0, 1, 1, HIGH), 5);
    }

    // ---- Promise 22: reach

    private static void reachRefused() {
        Edges.Call reach = (x, a) -> x.reach(a[0], a[1], a[2], a[3]);
        int[][] stops = {{-1, 1, 0, 9}, {3, 1, 0, 9}, {12, 1, 0, 9}, {LOW, 1, 0, 9}, {HIGH, 1, 0, 9}};
        Edges.refused(22, "there is no such stop", Edges::town, reach, stops);
        int[][] days = {{0, -1, 0, 9}, {0, 100, 0, 9}, {0, LOW, 0, 9}, {0, HIGH, 0, 9}};
        Edges.refused(22, "there is no such day", Edges::town, reach, days);
        int[][] minutes = {{0, 1, -1, 9}, {0, 1, 1440, 9}, {0, 1, LOW, 9}, {0, 1, HIGH, 9}};
        Edges.refused(22, "the minute is not 0..1439", Edges::town, reach, minutes);
        int[][] within = {{0, 1, 0, -1}, {0, 99, 1439, -1}, {0, 1, 0, LOW}, {0, 1, 0, -1440}};
        Edges.refused(22, "within is below 0", Edges::town, reach, within);
    }

    private static void reachWithinSoMany() {
        ConnectionDesk x = Edges.desk(4);
        x.walk(0, 1, 1);
        x.walk(0, 2, 240);
        for (int d : new int[] {0, 99}) {
            Edges.due(22, "within 0: where one is", x.reach(0, d, 1439, 0), 1);
            Edges.due(22, "within 1: so many, too", x.reach(0, d, 1439, 1), 3);
            Edges.due(22, "within 239", x.reach(0, d, 1439, 239), 3);
            Edges.due(22, "within 240", x.reach(0, d, 1439, 240), 7);
            Edges.due(22, "within any minutes", x.reach(0, d, 1439, HIGH), 7);
            Edges.due(22, "from where no way goes", x.reach(3, d, 0, HIGH), 8);
        }
        ConnectionDesk y = Edges.desk(2);
        Edges.addTrip(y, 0, 0, 0, 100, 100, 1, 100, 100);
        Edges.due(22, "within 0 by a ride in no time", y.reach(0, 0, 100, 0), 3);
        Edges.due(22, "the ride is gone", y.reach(0, 0, 101, 1438), 1);
        Edges.due(22, "that of the next day", y.reach(0, 0, 101, 1439), 3);
    }

    private static void reachAllTwelve() {
        ConnectionDesk x = Edges.desk(12);
        for (int s = 1; s < 12; s++) {
            x.walk(0, s, s);
        }
        for (int s = 0; s < 12; s++) {
            Edges.due(22, "a bit for each stop up to " + s, x.reach(0, 0, 0, s), (2 << s) - 1);
            Edges.due(22, "from stop " + s, x.reach(11 - s, 0, 0, 0), 1 << 11 - s);
        }
    }

    private static void reachBeforeTheEndOfTheNextDay() {
        ConnectionDesk x = Edges.desk(3);
        Edges.addTripOf(x, 2, 1, 1, 0, 2800, 2800, 1, 2878, 2878);
        x.walk(1, 2, 1);
        Edges.due(22, "at the last minute of the next day", x.reach(0, 0, 0, HIGH), 7);
        Edges.due(22, "within 2879", x.reach(0, 0, 0, 2879), 7);
        Edges.due(22, "within 2878", x.reach(0, 0, 0, 2878), 3);
        Edges.due(22, "within 2877", x.reach(0, 0, 0, 2877), 1);
        x.late(0, 0, 1, 1);
        Edges.due(22, "the walk comes at 1440 (d + 2)", x.reach(0, 0, 0, HIGH), 3);
        x.late(0, 0, 1, 1);
        Edges.due(22, "the ride comes at 1440 (d + 2)", x.reach(0, 0, 0, HIGH), 1);
        Edges.due(22, "d being the day of t", x.reach(0, 1, 0, HIGH), 7);
    }

    // ---- Promise 23: meet, and 24: met

    private static void meetRefused() {
        Edges.Call meet = (x, a) -> x.meet(a[0], a[1], a[2]);
        Edges.refused(23, "no stop is told", Edges::town, meet, new int[][] {{0, 1, 0}});
        int[][] stops = {{8, 1, 0}, {9, 1, 0}, {15, 1, 0}, {-1, 1, 0}, {LOW, 1, 0}, {HIGH, 1, 0}, {LOW + 1, 1, 0}, {1 << 12, 1, 0}, {1 << 30, 1, 0}};
        Edges.refused(23, "one that there is not is told", Edges::town, meet, stops);
        int[][] days = {{1, -1, 0}, {1, 100, 0}, {7, LOW, 0}, {7, HIGH, 0}};
        Edges.refused(23, "there is no such day", Edges::town, meet, days);
        int[][] minutes = {{1, 1, -1}, {1, 1, 1440}, {7, 1, LOW}, {7, 1, HIGH}};
        Edges.refused(23, "the minute is not 0..1439", Edges::town, meet, minutes);
        Edges.refused(23, "no stop is there", ConnectionDesk::new, meet, new int[][] {{1, 0, 0}, {0, 0, 0}, {-1, 0, 0}});
        Edges.refused(23, "there is no 13th stop", Edges::fullTown, meet, new int[][] {{1 << 12, 1, 0}, {8191, 1, 0}, {0, 1, 0}});
    }

    private static void meetAtOneOfTwelve() {
        ConnectionDesk x = Edges.desk(12);
        for (int s = 0; s < 12; s++) {
            Edges.due(23, "alone at stop " + s, x.meet(1 << s, 99, 1439), s);
            Edges.due(24, "at once", x.met(), 143999);
        }
        Edges.due(23, "all twelve, who can't move", x.meet(4095, 0, 0), -1);
        Edges.due(24, "of the latest one that told a stop", x.met(), 143999);
        for (int s = 1; s < 12; s++) {
            x.walk(s, 0, 10 * s);
        }
        Edges.due(23, "all twelve", x.meet(4095, 0, 0), 0);
        Edges.due(24, "when the last one is there", x.met(), 110);
        Edges.due(23, "the first eleven", x.meet(2047, 0, 0), 0);
        Edges.due(24, "when the tenth is there", x.met(), 100);
    }

    private static void meetAtTheLeastOfEqualOnes() {
        ConnectionDesk x = Edges.desk(5);
        int[][] walks = {{3, 1, 20}, {4, 1, 10}, {3, 2, 10}, {4, 2, 20}, {3, 0, 21}, {4, 0, 1}};
        for (int[] w : walks) {
            x.walk(w[0], w[1], w[2]);
        }
        Edges.due(23, "of equal ones the least", x.meet(24, 0, 0), 1);
        Edges.due(24, "all are there", x.met(), 20);
        x.walk(3, 0, 20);
        Edges.due(23, "one less that is equal, too", x.meet(24, 0, 0), 0);
        x.walk(4, 3, 20);
        Edges.due(23, "a greater one that is equal", x.meet(24, 0, 0), 0);
        x.walk(4, 3, 19);
        Edges.due(23, "a greater one that is sooner", x.meet(24, 0, 0), 3);
        Edges.due(24, "sooner", x.met(), 19);
    }

    private static void meetBeforeTheEndOfTheNextDay() {
        ConnectionDesk x = Edges.desk(2);
        x.walk(0, 1, 240);
        x.shuttle(0, 1199, 1199, 1);
        Edges.due(23, "at the last minute of the next day", x.meet(3, 4, 1200), 1);
        Edges.due(24, "at the last minute of the next day", x.met(), 6 * 1440 - 1);
        x.shuttle(0, 1200, 1200, 1);
        Edges.due(23, "-1 when there is none", x.meet(3, 4, 1201), -1);
        Edges.due(24, "as it was", x.met(), 6 * 1440 - 1);
        Edges.due(23, "just in time for the shuttle", x.meet(3, 4, 1200), 1);
        Edges.due(24, "just in time for the shuttle", x.met(), 5 * 1440);
    }

    private static void metOfTheLatestMeet() {
        ConnectionDesk x = Edges.desk(2);
        Edges.due(24, "-1 at first", x.met(), -1);
        x.meet(3, 0, 0);
        Edges.due(24, "-1 when none was told", x.met(), -1);
        x.meet(1, 0, 1440);
        Edges.due(24, "-1 when it was refused", x.met(), -1);
        x.meet(1, 99, 1439);
        Edges.due(24, "the TIME", x.met(), 143999);
        x.meet(1, 0, 0);
        Edges.due(24, "TIME 0 of the latest one", x.met(), 0);
        x.meet(3, 5, 5);
        x.meet(0, 5, 5);
        x.meet(4, 5, 5);
        x.reach(0, 3, 3, 3);
        Edges.due(24, "it stays", x.met(), 0);
    }

    // ---- Promise 25: table

    private static void tableRefused() {
        Edges.Call table = (x, a) -> x.table(a[0], a[1], a[2], a[3]);
        int[][] stops = {{-1, 1, 0, 0}, {3, 1, 0, 0}, {12, 1, -1, 0}, {LOW, 1, 0, 0}, {HIGH, 1, 0, 0}};
        Edges.refused(25, "there is no such stop", Edges::town, table, stops);
        int[][] days = {{0, -1, 0, 0}, {0, 100, 0, 0}, {0, -1, -1, 0}, {0, LOW, 0, 0}, {0, HIGH, 0, 0}};
        Edges.refused(25, "there is no such day", Edges::town, table, days);
        int[][] whats = {{0, 1, 0, -1}, {0, 1, 0, 4}, {0, 1, 99, 4}, {0, 1, -1, -1}, {0, 1, 0, LOW}, {0, 1, 0, HIGH}};
        Edges.refused(25, "there is no such what", Edges::town, table, whats);
    }

    private static void tableWithoutSuchAOne() {
        ConnectionDesk x = Edges.desk(2);
        Edges.addTripOf(x, 0, 1, 0, 0, 10, 11, 1, 20, 20);
        for (int what = 0; what < 4; what++) {
            int[] due = {0, 0, 10, 11};
            Edges.due(25, "the first", x.table(0, 0, 0, what), due[what]);
            for (int i : new int[] {-1, 1, 2, 192, LOW, HIGH, -2}) {
                Edges.due(25, "-1 when there is no such one, i " + i, x.table(0, 0, i, what), -1);
            }
            Edges.due(25, "it does not RUN on that day", x.table(0, 1, 0, what), -1);
        }
        Edges.due(25, "on the last day of its KIND", x.table(0, 98, 0, 2), 10);
        Edges.due(25, "on the last day", x.table(0, 99, 0, 2), -1);
        x.gone(0, 98, true);
        Edges.due(25, "GONE", x.table(0, 98, 0, 2), -1);
        x.miss(0, 0, true);
        Edges.due(25, "MISSED", x.table(0, 0, 0, 2), -1);
        Edges.due(25, "but not at another stop", x.table(1, 0, 0, 2), 20);
    }

    /** By when they leave, then by trips, then by calls; not by when they come. */
    private static void tableInOrder() {
        ConnectionDesk x = Edges.desk(2);
        Edges.addTrip(x, 0, 0, 0, 5, 30, 1, 30, 30, 0, 30, 30, 0, 30, 31);
        Edges.addTrip(x, 1, 1, 0, 0, 30);
        Edges.addTrip(x, 2, 1, 0, 29, 29, 0, 1440, 1440, 0, 1441, 2879);
        int[][] due = {{2, 0, 29, 29}, {0, 0, 5, 30}, {0, 2, 30, 30}, {1, 0, 0, 30}, {0, 3, 30, 31}, {2, 1, 1440, 1440}, {2, 2, 1441, 2879}};
        for (int i = 0; i < due.length; i++) {
            for (int what = 0; what < 4; what++) {
                Edges.due(25, "row " + i + ", what " + what, x.table(0, 99, i, what), due[i][what]);
            }
        }
        Edges.due(25, "no more", x.table(0, 99, due.length, 0), -1);
        Edges.due(25, "what a NIGHT does on its next day is its own day's", x.table(0, 0, 5, 0), 2);
        x.late(1, 99, 0, 1);
        Edges.due(25, "a minute LATE: behind the trip before", x.table(0, 99, 4, 0), 1);
        Edges.due(25, "it goes ahead of it", x.table(0, 99, 3, 1), 3);
        Edges.due(25, "not on another day", x.table(0, 98, 3, 0), 1);
        x.late(2, 99, 0, 1);
        Edges.due(25, "LATE alike: the greater trip is last", x.table(0, 99, 0, 0), 0);
        Edges.due(25, "behind those of its minute", x.table(0, 99, 2, 0), 2);
        Edges.due(25, "when it comes", x.table(0, 99, 2, 2), 30);
        Edges.due(25, "beyond what its KIND lets", x.table(0, 99, 6, 3), 2880);
    }

    /** The longest table: 24 trips that call eight times at one stop, and as LATE as can be. */
    private static void tableOfAllCalls() {
        ConnectionDesk x = Edges.desk(1);
        for (int t = 0; t < 24; t++) {
            x.trip(2, 127, 50);
            for (int k = 0; k < 8; k++) {
                x.call(t, 0, 300 * k, 300 * k + (23 - t) / 8);
            }
        }
        for (int n = 0; n < 60; n++) {
            x.late(0, 0, 7, 240);
        }
        Edges.due(25, "the first trip", x.table(0, 0, 0, 0), 16);
        Edges.due(25, "the last of the first calls", x.table(0, 0, 23, 0), 7);
        Edges.due(25, "the first of the next calls", x.table(0, 0, 24, 1), 1);
        Edges.due(25, "the last row", x.table(0, 0, 191, 0), 0);
        Edges.due(25, "of call 7", x.table(0, 0, 191, 1), 7);
        Edges.due(25, "ten days LATE", x.table(0, 0, 191, 3), 2102 + 14400);
        Edges.due(25, "no row behind the last", x.table(0, 0, 192, 0), -1);
        Edges.due(25, "on another day", x.table(0, 1, 191, 0), 7);
    }

    // ---- Promise 26: count

    private static void countRefused() {
        Edges.Call count = (x, a) -> x.count(a[0]);
        Edges.refused(26, "it is another what", Edges::town, count, new int[][] {{-1}, {7}, {8}, {LOW}, {HIGH}});
    }

    private static void countOfAFullDesk() {
        ConnectionDesk x = Edges.fullTown();
        int[] due = {12, 24, 20, 1, 30, 29, 60};
        for (int what = 0; what < due.length; what++) {
            Edges.due(26, "count(" + what + ") of a full desk", x.count(what), due[what]);
        }
        x.stop(0, 0);
        x.trip(0, 1, 0);
        x.walk(0, 1, 1);
        x.take(0);
        x.give(1);
        x.late(0, 0, 0, 1);
        for (int what = 0; what < due.length; what++) {
            Edges.due(26, "refused calls do not count, count(" + what + ")", x.count(what), due[what]);
        }
        x.ways(1, 0, 0, 1300);
        Edges.due(26, "ways at hand", x.count(3), x.ways(1, 0, 0, 1300));
        x.ways(11, 10, 0, 0);
        Edges.due(26, "no ways at hand", x.count(3), 0);
        x.give(0);
        Edges.due(26, "one was given back", x.count(5), 28);
        Edges.due(26, "but made", x.count(4), 30);
    }

    public static void main(String[] args) {
        latestRefused();
        latestByAnyTime();
        latestToWhereOneIs();
        latestWhenThereIsNone();
        latestOfSeveral();
        reachRefused();
        reachWithinSoMany();
        reachAllTwelve();
        reachBeforeTheEndOfTheNextDay();
        meetRefused();
        meetAtOneOfTwelve();
        meetAtTheLeastOfEqualOnes();
        meetBeforeTheEndOfTheNextDay();
        metOfTheLatestMeet();
        tableRefused();
        tableWithoutSuchAOne();
        tableInOrder();
        tableOfAllCalls();
        countRefused();
        countOfAFullDesk();
        Edges.end(21, 26);
    }
}
