import java.util.ArrayList;
import java.util.List;
import java.util.Random;

/** Runs of calls, drawn by a fixed seed, on the desk and on the plain one: all answers agree. */
public final class OracleTest {
    private static int wrong;
    private static long asked;
    private static int mostWays;

    private final Random random;
    private final ConnectionDesk desk = new ConnectionDesk();
    private final PlainDesk plain;
    /** As many stops, trips, calls and walks as there can be. */
    private final boolean wide;
    private final List<String> said = new ArrayList<>();
    private final int stops;
    /** So many stops and trips lie ahead that are not used. */
    private final int skipped;
    private final int firstDay;
    private final int span;
    private final int grid;

    private OracleTest(long seed, boolean wide) {
        random = new Random(seed);
        this.wide = wide;
        plain = wide ? new WideDesk() : new PlainDesk();
        stops = wide ? 12 : 2 + random.nextInt(5);
        skipped = random.nextInt(3) == 0 ? 12 - stops : 0;
        firstDay = random.nextInt(3) == 0 ? 97 : random.nextInt(3) == 0 ? random.nextInt(80) : 0;
        span = random.nextBoolean() ? 120 : 1440;
        grid = random.nextInt(3) == 0 ? 1 : 10;
    }

    private int upTo(int most) {
        return random.nextInt(most + 1);
    }

    /** One time in so many something that is most likely wrong. */
    private int rarely(int usual) {
        if (random.nextInt(60) != 0) {
            return usual;
        }
        int[] odd = {-1, -2, 0, 1, 4, 7, 8, 12, 20, 24, 30, 31, 100, 1440, Integer.MAX_VALUE, Integer.MIN_VALUE};
        return odd[random.nextInt(odd.length)];
    }

    private int aStop() {
        return rarely(skipped + random.nextInt(stops));
    }

    private int aDay() {
        return rarely(Math.min(99, firstDay + random.nextInt(random.nextInt(4) == 0 ? 12 : 3)));
    }

    private int aMinute() {
        int at = span == 1440 || random.nextInt(4) == 0 ? random.nextInt(1440) : random.nextInt(span);
        return rarely(at / grid * grid);
    }

    private int aTrip() {
        int used = Math.max(1, plain.trips.size() - 2 * skipped);
        return rarely(plain.trips.size() - 1 - random.nextInt(used));
    }

    private int aCall(int trip) {
        int calls = plain.isTrip(trip) ? plain.trips.get(trip).calls.size() : 1;
        return rarely(random.nextInt(Math.max(1, calls)));
    }

    private void same(String call, int got, int want) {
        asked++;
        said.add(call + " = " + want);
        if (got != want) {
            wrong++;
            if (wrong <= 3) {
                System.out.println(String.join("\n", said));
            }
            System.out.println(call + " answered " + got + ", due is " + want);
        }
    }

    private void build() {
        for (int s = 0; s < skipped; s++) {
            same("stop(0, 0)", desk.stop(0, 0), plain.stop(0, 0));
            same("trip(0, 127, 0)", desk.trip(0, 127, 0), plain.trip(0, 127, 0));
            same("trip(1, 127, 5)", desk.trip(1, 127, 5), plain.trip(1, 127, 5));
        }
        for (int s = 0; s < stops; s++) {
            int change = rarely(upTo(random.nextBoolean() ? 0 : 12));
            int zone = rarely(upTo(3));
            same("stop(" + change + ", " + zone + ")", desk.stop(change, zone), plain.stop(change, zone));
        }
        for (int n = upTo(12); n > 0; n--) {
            int from = rarely(upTo(3));
            int to = rarely(upTo(3));
            int fare = rarely(upTo(random.nextBoolean() ? 2 : 9));
            same("fare(" + from + ", " + to + ", " + fare + ")", desk.fare(from, to, fare), plain.fare(from, to, fare));
        }
        for (int n = wide ? 24 : 1 + upTo(5); n > 0; n--) {
            addTrip();
        }
        for (int n = wide ? 4 + upTo(18) : upTo(4); n > 0; n--) {
            addWalk();
        }
    }

    private void addTrip() {
        int kind = rarely(upTo(2));
        int days = rarely(random.nextBoolean() ? 127 : 1 + random.nextInt(127));
        int seats = rarely(kind == 0 ? 0 : 1 + upTo(1));
        same("trip(" + kind + ", " + days + ", " + seats + ")", desk.trip(kind, days, seats), plain.trip(kind, days, seats));
        int comes = random.nextInt(span) / 2 / grid * grid;
        if (kind == 2 && random.nextBoolean()) {
            comes += 1300;
        }
        for (int n = 2 + upTo(wide || random.nextInt(4) == 0 ? 7 : 3); n > 0; n--) {
            comes = addCall(plain.trips.size() - 1, comes);
        }
    }

    private int addCall(int trip, int earliest) {
        int comes = rarely(earliest + (random.nextBoolean() ? upTo(span / 8) : 0) / grid * grid);
        int leaves = rarely(comes + (random.nextBoolean() ? upTo(span / 20) : 0) / grid * grid);
        int stop = aStop();
        same("call(" + trip + ", " + stop + ", " + comes + ", " + leaves + ")",
                desk.call(trip, stop, comes, leaves), plain.call(trip, stop, comes, leaves));
        return Math.max(earliest, Math.min(2879, leaves));
    }

    private void addWalk() {
        int from = aStop();
        int to = aStop();
        int minutes = rarely(1 + upTo(random.nextBoolean() ? 20 : 239));
        same("walk(" + from + ", " + to + ", " + minutes + ")", desk.walk(from, to, minutes), plain.walk(from, to, minutes));
        if (random.nextBoolean()) {
            addShuttle(rarely(plain.walks.size() - 1));
        }
    }

    private void addShuttle(int walk) {
        int first = aMinute();
        int last = rarely(Math.min(1439, first + upTo(200)));
        int every = rarely(1 + upTo(60));
        same("shuttle(" + walk + ", " + first + ", " + last + ", " + every + ")",
                desk.shuttle(walk, first, last, every), plain.shuttle(walk, first, last, every));
        if (random.nextBoolean()) {
            addAsked(walk);
        }
    }

    private void addAsked(int walk) {
        int ahead = rarely(1 + upTo(random.nextBoolean() ? 30 : 599));
        same("asked(" + walk + ", " + ahead + ")", desk.asked(walk, ahead), plain.asked(walk, ahead));
    }

    private void change() {
        int trip = aTrip();
        int call = aCall(trip);
        int day = aDay();
        boolean is = random.nextBoolean();
        int walk = rarely(random.nextInt(Math.max(1, plain.walks.size())));
        switch (random.nextInt(9)) {
            case 0 -> same("miss(" + trip + ", " + call + ", " + is + ")", desk.miss(trip, call, is), plain.miss(trip, call, is));
            case 1 -> same("gone(" + trip + ", " + day + ", " + is + ")", desk.gone(trip, day, is), plain.gone(trip, day, is));
            case 2, 3 -> {
                int minutes = rarely(1 + upTo(random.nextBoolean() ? 20 : 239));
                for (int n = random.nextInt(6) == 0 ? 12 : 1; n > 0; n--) {
                    same("late(" + trip + ", " + day + ", " + call + ", " + minutes + ")",
                            desk.late(trip, day, call, minutes), plain.late(trip, day, call, minutes));
                }
            }
            case 4 -> {
                int kind = rarely(upTo(6));
                same("day(" + day + ", " + kind + ")", desk.day(day, kind), plain.day(day, kind));
            }
            case 5 -> addShuttle(walk);
            case 6 -> addAsked(walk);
            case 7 -> {
                if (plain.isTrip(trip) && !plain.trips.get(trip).calls.isEmpty()) {
                    List<PlainDesk.Call> calls = plain.trips.get(trip).calls;
                    addCall(trip, calls.get(calls.size() - 1).leaves());
                }
            }
            default -> {
                int from = rarely(upTo(3));
                int to = rarely(upTo(3));
                int fare = rarely(upTo(9));
                same("fare(" + from + ", " + to + ", " + fare + ")", desk.fare(from, to, fare), plain.fare(from, to, fare));
            }
        }
    }

    private void ask() {
        int from = aStop();
        int to = aStop();
        int day = aDay();
        int minute = aMinute();
        same("ways(" + from + ", " + to + ", " + day + ", " + minute + ")",
                desk.ways(from, to, day, minute), plain.ways(from, to, day, minute));
        readWays();
    }

    private void readWays() {
        mostWays = Math.max(mostWays, plain.hand.size());
        for (int i = -1; i <= plain.hand.size(); i++) {
            for (int what = -1; what <= 5; what++) {
                same("way(" + i + ", " + what + ")", desk.way(i, what), plain.way(i, what));
            }
            int legs = Math.max(0, plain.way(i, 4));
            for (int k = -1; k <= legs; k++) {
                for (int what = -1; what <= 9; what++) {
                    same("leg(" + i + ", " + k + ", " + what + ")", desk.leg(i, k, what), plain.leg(i, k, what));
                }
            }
        }
    }

    private void readTickets() {
        for (int n = -1; n <= plain.tickets.size(); n++) {
            same("still(" + n + ")", desk.still(n), plain.still(n));
            same("comes(" + n + ")", desk.comes(n), plain.comes(n));
        }
        int trip = aTrip();
        int day = aDay();
        for (int call = -1; call <= 8; call++) {
            same("taken(" + trip + ", " + day + ", " + call + ")", desk.taken(trip, day, call), plain.taken(trip, day, call));
        }
    }

    private void readTable() {
        int stop = aStop();
        int day = aDay();
        for (int i = -1; i < 6; i++) {
            for (int what = -1; what <= 4; what++) {
                same("table(" + stop + ", " + day + ", " + i + ", " + what + ")",
                        desk.table(stop, day, i, what), plain.table(stop, day, i, what));
            }
        }
        for (int what = -1; what <= 7; what++) {
            same("count(" + what + ")", desk.count(what), plain.count(what));
        }
    }

    private void askMore() {
        int from = aStop();
        int day = aDay();
        int minute = aMinute();
        switch (random.nextInt(8)) {
            case 0, 1, 2 -> {
                int within = rarely(upTo(random.nextBoolean() ? 200 : 3000));
                same("reach(" + from + ", " + day + ", " + minute + ", " + within + ")",
                        desk.reach(from, day, minute, within), plain.reach(from, day, minute, within));
            }
            case 3 -> {
                int to = aStop();
                int by = rarely(1440 * Math.max(0, Math.min(99, day)) + upTo(random.nextBoolean() ? 400 : 3000));
                same("latest(" + from + ", " + to + ", " + day + ", " + by + ")",
                        desk.latest(from, to, day, by), plain.latest(from, to, day, by));
            }
            default -> {
                int who = rarely(1 + random.nextInt((1 << stops) - 1) << skipped);
                same("meet(" + who + ", " + day + ", " + minute + ")", desk.meet(who, day, minute), plain.meet(who, day, minute));
                same("met()", desk.met(), plain.met());
            }
        }
    }

    /**
     * A network with many ways that are not beaten: the more rides, the sooner they come. Stops 0 to 3
     * and 4 to 7 are of zones 0 to 3, stop 8 is where one wants to be. Trips as rows: from, leaves, to, comes.
     */
    private static int[][] richTrips(Random r) {
        int[][] rows = new int[24][];
        for (int n = 0; n < 24; n++) {
            int early = n < 4 ? 300 : n < 10 ? 150 : n < 14 ? 60 : n < 18 ? 5 : n < 21 ? 35 : 65;
            int spread = n < 14 ? 50 : 10;
            int from = n < 4 ? n : n >= 10 && n < 18 ? r.nextInt(4) : 4 + r.nextInt(4);
            int to = n < 10 || n >= 21 ? 8 : n < 18 ? 4 + (n - 10) % 4 : 4 + (from + 1 + r.nextInt(3)) % 4;
            rows[n] = new int[] {from, early + r.nextInt(spread), to, early + spread + r.nextInt(2 * spread)};
        }
        return rows;
    }

    private static int buildRich(ConnectionDesk x, Random r) {
        for (int s = 0; s < 9; s++) {
            x.stop(0, s == 8 ? 3 : s % 4);
        }
        for (int z = 0; z < 16; z++) {
            x.fare(z / 4, z % 4, r.nextInt(10));
        }
        for (int s = 1; s < 4; s++) {
            x.walk(0, s, s);
        }
        for (int[] row : richTrips(r)) {
            int trip = x.trip(0, 1, 0);
            x.call(trip, row[0], row[1], row[1]);
            x.call(trip, row[2], row[3], row[3]);
        }
        return x.ways(0, 8, 0, 0);
    }

    /** The same on the plain desk, as the same numbers are drawn. */
    private static int buildRich(PlainDesk x, Random r) {
        for (int s = 0; s < 9; s++) {
            x.stop(0, s == 8 ? 3 : s % 4);
        }
        for (int z = 0; z < 16; z++) {
            x.fare(z / 4, z % 4, r.nextInt(10));
        }
        for (int s = 1; s < 4; s++) {
            x.walk(0, s, s);
        }
        for (int[] row : richTrips(r)) {
            int trip = x.trip(0, 1, 0);
            x.call(trip, row[0], row[1], row[1]);
            x.call(trip, row[2], row[3], row[3]);
        }
        return x.ways(0, 8, 0, 0);
    }

    /** Compares that one of many rich networks which has the most ways. */
    private void runRich(long firstSeed, int seeds) {
        long best = firstSeed;
        int most = -1;
        for (long seed = firstSeed; seed < firstSeed + seeds; seed++) {
            int ways = buildRich(new ConnectionDesk(), new Random(seed));
            if (ways > most) {
                most = ways;
                best = seed;
            }
        }
        same("rich " + best, buildRich(desk, new Random(best)), buildRich(plain, new Random(best)));
        readWays();
    }

    private void run(int steps) {
        build();
        for (int n = 0; n < steps; n++) {
            switch (random.nextInt(10)) {
                case 0, 1 -> change();
                case 2, 3, 4 -> ask();
                case 5, 6 -> {
                    int i = rarely(random.nextInt(Math.max(1, plain.hand.size())));
                    same("take(" + i + ")", desk.take(i), plain.take(i));
                    readTickets();
                }
                case 7 -> {
                    int n2 = rarely(random.nextInt(Math.max(1, plain.tickets.size())));
                    if (random.nextInt(3) == 0) {
                        same("give(" + n2 + ")", desk.give(n2), plain.give(n2));
                    }
                    readTickets();
                }
                case 8 -> readTable();
                default -> askMore();
            }
        }
    }

    public static void main(String[] args) {
        long first = args.length > 1 ? Long.parseLong(args[1]) : 1;
        int runs = args.length > 2 ? Integer.parseInt(args[2]) : 300;
        for (long seed = first; seed < first + (runs + 9) / 10 && wrong == 0; seed++) {
            new OracleTest(seed, true).run(60);
        }
        System.out.println("wide networks: " + asked + " answers, up to " + mostWays + " ways at hand");
        for (long seed = first; seed < first + runs && wrong == 0; seed++) {
            new OracleTest(seed, false).run(30);
        }
        for (long seed = first; seed < first + 50 && wrong == 0; seed++) {
            new OracleTest(seed, false).runRich(1000 * seed, 100);
        }
        System.out.println(wrong + " of " + asked + " answers are not as due; up to " + mostWays + " ways at hand");
        if (wrong != 0) {
            System.exit(1);
        }
    }
}
