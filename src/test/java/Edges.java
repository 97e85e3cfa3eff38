import java.util.ArrayList;
import java.util.List;
import java.util.function.Supplier;

/**
 * What the tests of the edges share: checks that name a promise and its sentence, small desks, and the
 * reading of a whole desk, by which one sees that a refused call has changed nothing.
 */
final class Edges {
    static final int LOW = Integer.MIN_VALUE;
    static final int HIGH = Integer.MAX_VALUE;
    private static final int PROMISES = 26;
    private static final int[] ASKED = new int[PROMISES + 1];
    private static int wrong;

    private Edges() {
    }

    /** A call on a desk with these arguments. */
    interface Call {
        int on(ConnectionDesk x, int[] args);
    }

    static void due(int promise, String sentence, int got, int want) {
        ASKED[promise]++;
        if (got != want) {
            wrong++;
            System.out.println("promise " + promise + ": " + sentence + ": answered " + got + ", due is " + want);
        }
    }

    /** A desk with stops that have no change and are all of zone 0. */
    static ConnectionDesk desk(int stops) {
        ConnectionDesk x = new ConnectionDesk();
        for (int s = 0; s < stops; s++) {
            due(2, "a new stop: its number", x.stop(0, 0), s);
        }
        return x;
    }

    /** A new trip of all days; its calls in threes: stop, comes, leaves. */
    static int addTrip(ConnectionDesk x, int kind, int seats, int... calls) {
        return addTripOf(x, kind, 127, seats, calls);
    }

    static int addTripOf(ConnectionDesk x, int kind, int days, int seats, int... calls) {
        int trip = x.trip(kind, days, seats);
        for (int k = 0; k + 2 < calls.length; k += 3) {
            due(6, "a call more: its number", x.call(trip, calls[k], calls[k + 1], calls[k + 2]), k / 3);
        }
        return trip;
    }

    /** The fields of a way at hand, from 0 on. */
    static void dueWay(int promise, String sentence, ConnectionDesk x, int i, int... fields) {
        for (int what = 0; what < fields.length; what++) {
            due(promise, sentence + ", way(" + i + ", " + what + ")", x.way(i, what), fields[what]);
        }
    }

    static void dueLeg(int promise, String sentence, ConnectionDesk x, int i, int k, int... fields) {
        for (int what = 0; what < fields.length; what++) {
            due(promise, sentence + ", leg(" + i + ", " + k + ", " + what + ")", x.leg(i, k, what), fields[what]);
        }
    }

    /** A desk that has something of all: three stops, trips and walks of each kind, ways, tickets. */
    static ConnectionDesk town() {
        ConnectionDesk x = new ConnectionDesk();
        x.stop(5, 0);
        x.stop(0, 1);
        x.stop(30, 3);
        x.fare(0, 1, 2);
        x.fare(1, 3, 3);
        x.fare(0, 3, 9);
        x.day(1, 3);
        addTrip(x, 0, 0, 0, 480, 480, 1, 510, 512, 2, 560, 560);
        addTrip(x, 1, 2, 1, 515, 516, 2, 530, 530);
        addTrip(x, 2, 1, 2, 1400, 1400, 0, 1500, 1500, 1, 1510, 1510);
        x.walk(0, 1, 30);
        x.walk(1, 2, 20);
        x.shuttle(1, 520, 700, 15);
        x.walk(2, 0, 240);
        x.shuttle(2, 600, 1200, 60);
        x.asked(2, 90);
        x.miss(2, 2, true);
        x.gone(2, 2, true);
        x.late(0, 1, 1, 2);
        x.late(1, 1, 0, 3);
        x.ways(2, 0, 1, 0);
        x.take(0);
        x.ways(0, 2, 1, 470);
        x.take(0);
        x.take(0);
        x.give(1);
        x.meet(3, 1, 0);
        return x;
    }

    /** A desk on which there is as much of all as there can be. */
    static ConnectionDesk fullTown() {
        ConnectionDesk x = town();
        for (int n = x.count(0); n < 12; n++) {
            due(2, "12 stops", x.stop(n, n % 4), n);
        }
        for (int n = x.count(1); n < 24; n++) {
            due(5, "24 trips", x.trip(0, 127, 0), n);
        }
        for (int k = 3; k < 8; k++) {
            due(6, "8 calls", x.call(0, 2, 560 + k, 560 + k), k);
        }
        for (int n = x.count(2); n < 20; n++) {
            due(8, "20 walks", x.walk(0, 1, 31), n);
        }
        for (int n = x.count(6); n < 60; n++) {
            due(11, "60 that were told", x.late(0, 50, 0, 1), n - 1);
        }
        x.ways(0, 1, 1, 470);
        for (int n = x.count(4); n < 30; n++) {
            due(16, "30 tickets", x.take(0), n);
        }
        return x;
    }

    /** Refused by -2, for each row of arguments, and all that can be read is as it was. */
    static void refused(int promise, String sentence, Supplier<ConnectionDesk> make, Call call, int[]... rows) {
        List<Integer> before = read(make.get());
        for (int[] row : rows) {
            ConnectionDesk x = make.get();
            due(promise, "-2 when " + sentence, call.on(x, row), -2);
            List<Integer> after = read(x);
            due(promise, "it changes nothing when " + sentence, firstDifference(before, after), -1);
        }
    }

    private static int firstDifference(List<Integer> a, List<Integer> b) {
        for (int n = 0; n < Math.max(a.size(), b.size()); n++) {
            if (n >= a.size() || n >= b.size() || !a.get(n).equals(b.get(n))) {
                return n;
            }
        }
        return -1;
    }

    /** All answers that tell the state of a town; the last ones change it, as they tell what was. */
    static List<Integer> read(ConnectionDesk x) {
        List<Integer> all = new ArrayList<>();
        for (int what = 0; what <= 6; what++) {
            all.add(x.count(what));
        }
        all.add(x.met());
        readWays(x, all);
        for (int n = 0; n < 3; n++) {
            all.add(x.still(n));
            all.add(x.comes(n));
            for (int k = 0; k < 2; k++) {
                all.add(x.taken(n, 1, k));
                all.add(x.table(n, 1, k, 0));
                all.add(x.table(n, 1, k, 2));
                all.add(x.table(n, 1, k, 3));
            }
            all.add(x.reach(n, 1, 0, HIGH));
            all.add(x.latest(n, (n + 1) % 3, 1, HIGH));
            all.add(x.ways(n, (n + 1) % 3, 1, 300));
            readWays(x, all);
        }
        readWhatWas(x, all);
        return all;
    }

    private static void readWays(ConnectionDesk x, List<Integer> all) {
        for (int i = 0; i < Math.min(2, x.count(3)); i++) {
            for (int what = 0; what < 5; what++) {
                all.add(x.way(i, what));
            }
            for (int k = 0; k < x.way(i, 4); k++) {
                for (int what : new int[] {0, 1, 4, 5, 6}) {
                    all.add(x.leg(i, k, what));
                }
            }
        }
    }

    private static void readWhatWas(ConnectionDesk x, List<Integer> all) {
        for (int n = 0; n < 16; n++) {
            all.add(x.fare(n / 4, n % 4, 0));
        }
        for (int d : new int[] {0, 1, 2, 50, 98, 99}) {
            all.add(x.day(d, 0));
            all.add(x.gone(2, d, false));
        }
        for (int n = 0; n < 9; n++) {
            all.add(x.miss(n / 3, n % 3, false));
            all.add(x.late(n / 3, 1, n % 3, 1));
        }
        for (int n = 0; n < 3; n++) {
            all.add(x.shuttle(n, 0, 0, 1));
            all.add(x.call(n, 0, 1439, 1439));
            all.add(x.give(n));
        }
        all.add(x.stop(0, 0));
        all.add(x.trip(0, 1, 0));
        all.add(x.walk(0, 1, 1));
    }

    /** Ends a test of these promises: each must have been asked for, and no answer be wrong. */
    static void end(int first, int last) {
        int asked = 0;
        for (int n : ASKED) {
            asked += n;
        }
        for (int promise = first; promise <= last; promise++) {
            if (ASKED[promise] == 0) {
                wrong++;
                System.out.println("promise " + promise + " has no test here");
            }
        }
        System.out.println(wrong + " of " + asked + " answers are not as due");
        if (wrong != 0) {
            System.exit(1);
        }
    }
}
