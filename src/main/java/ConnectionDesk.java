import java.util.Arrays;

/**
 * A desk that knows the ways from a place to a place: trips by tables with kinds of days, calls
 * that are passed by, walks, shuttles and those that must be asked for, seats, delays.
 *
 * <p>All times are whole minutes; the TIME of minute m of day d is 1440 d + m. A refused call
 * answers -2 and changes nothing. All rows are made with the object and used again by every call.
 */
public final class ConnectionDesk {
    private static final int REFUSED = -2;
    private static final int NONE = -1;
    /** Later than any TIME that can be, and still far from the end of the ints. */
    private static final int NEVER = 1_000_000_000;

    private static final int DAY = 1440;
    private static final int DAYS = 100;
    private static final int KINDS_OF_DAYS = 7;
    private static final int STOPS = 12;
    private static final int ZONES = 4;
    private static final int MOST_CHANGE = 30;
    private static final int MOST_FARE = 9;
    private static final int TRIPS = 24;
    private static final int CALLS = 8;
    private static final int MOST_SEATS = 50;
    private static final int WALKS = 20;
    private static final int MOST_MINUTES = 240;
    private static final int MOST_AHEAD = 600;
    private static final int TOLD = 60;
    private static final int TICKETS = 30;
    private static final int RIDES = 3;
    /** How many fares a way can have, from 0 on. */
    private static final int FARES = RIDES * MOST_FARE + 1;
    /** A walk ahead of the rides and one behind each of them. */
    private static final int LEGS = 2 * RIDES + 1;
    /** A label for each number of rides and each fare that so many rides can have. */
    private static final int LABELS = RIDES + 1 + MOST_FARE * (RIDES * (RIDES + 1) / 2);
    /** Labels of ways that can be ridden on: those with a ride less. */
    private static final int RIDDEN_ON = RIDES + MOST_FARE * (RIDES * (RIDES - 1) / 2);
    /** All trips of the day before, of the day and of the next one, and those that are late. */
    private static final int RUNS = 3 * TRIPS + TOLD;

    private static final int KIND_RIDE = 0;
    private static final int KIND_NIGHT = 2;
    private static final int KIND_WALK = 3;
    private static final int KIND_SHUTTLE = 4;
    private static final int KIND_ASKED = 5;

    private static final int WAY_BEGINS = 0;
    private static final int WAY_COMES = 1;
    private static final int WAY_RIDES = 2;
    private static final int WAY_FARE = 3;
    private static final int WAY_LEGS = 4;
    private static final int WAY_FIELDS = 5;

    private static final int LEG_KIND = 0;
    private static final int LEG_NUMBER = 1;
    private static final int LEG_FROM = 2;
    private static final int LEG_TO = 3;
    private static final int LEG_BEGINS = 4;
    private static final int LEG_COMES = 5;
    private static final int LEG_DAY = 6;
    private static final int LEG_ON = 7;
    private static final int LEG_OFF = 8;
    private static final int LEG_FIELDS = 9;

    private final Stops stops;
    private final Trips trips;
    private final Walks walks;
    private final Places places;
    private final Tickets tickets;
    private final Runs runs;
    private final Search search;
    private final Found found;
    private final Board board;
    /** For each stop, when the last of those who meet can be there. */
    private final int[] gathered;
    private int metAt;

    public ConnectionDesk() {
        stops = new Stops();
        trips = new Trips();
        walks = new Walks();
        places = new Places();
        tickets = new Tickets(stops, trips, walks, places);
        runs = new Runs(trips, places);
        search = new Search(stops, trips, walks, runs);
        found = new Found(search);
        board = new Board(trips);
        gathered = new int[STOPS];
        metAt = NONE;
    }

    public int stop(int change, int zone) {
        if (!between(change, 0, MOST_CHANGE) || !isZone(zone)) {
            return REFUSED;
        }
        return stops.add(change, zone);
    }

    public int fare(int from, int to, int fare) {
        if (!isZone(from) || !isZone(to) || !between(fare, 0, MOST_FARE)) {
            return REFUSED;
        }
        return stops.price(from, to, fare);
    }

    public int day(int d, int kind) {
        if (!isDay(d) || !between(kind, 0, KINDS_OF_DAYS - 1)) {
            return REFUSED;
        }
        int was = trips.kindOfDay[d];
        trips.kindOfDay[d] = kind;
        return was;
    }

    public int trip(int kind, int days, int seats) {
        if (!between(kind, KIND_RIDE, KIND_NIGHT) || !between(days, 1, (1 << KINDS_OF_DAYS) - 1)) {
            return REFUSED;
        }
        boolean seated = kind == KIND_RIDE ? seats == 0 : between(seats, 1, MOST_SEATS);
        return seated ? trips.add(kind, days, seats) : REFUSED;
    }

    public int call(int trip, int stop, int comes, int leaves) {
        if (!trips.has(trip) || !stops.has(stop)) {
            return REFUSED;
        }
        return trips.addCall(trip, stop, comes, leaves);
    }

    public int miss(int trip, int call, boolean is) {
        return trips.hasCall(trip, call) ? trips.setMissed(trip, call, is) : REFUSED;
    }

    public int walk(int from, int to, int minutes) {
        if (!stops.has(from) || !stops.has(to) || from == to || !between(minutes, 1, MOST_MINUTES)) {
            return REFUSED;
        }
        return walks.add(from, to, minutes);
    }

    public int shuttle(int walk, int first, int last, int every) {
        if (!walks.has(walk) || !isMinute(first) || !between(last, first, DAY - 1)
                || !between(every, 1, DAY)) {
            return REFUSED;
        }
        return walks.makeShuttle(walk, first, last, every);
    }

    public int asked(int walk, int ahead) {
        if (!walks.has(walk) || walks.kind[walk] == KIND_WALK || !between(ahead, 1, MOST_AHEAD)) {
            return REFUSED;
        }
        return walks.makeAsked(walk, ahead);
    }

    public int late(int trip, int day, int call, int minutes) {
        if (!trips.hasCall(trip, call) || !isDay(day) || !between(minutes, 1, MOST_MINUTES)) {
            return REFUSED;
        }
        return trips.delays.tell(trip, day, call, minutes);
    }

    public int gone(int trip, int day, boolean is) {
        return trips.has(trip) && isDay(day) ? trips.setGone(trip, day, is) : REFUSED;
    }

    public int ways(int from, int to, int day, int minute) {
        if (!stops.has(from) || !stops.has(to) || !isDay(day) || !isMinute(minute)) {
            return REFUSED;
        }
        int time = DAY * day + minute;
        runs.gather(day, time);
        search.ask(from, time, stops.dearest());
        return found.collect(to);
    }

    public int way(int i, int what) {
        return found.has(i) && between(what, 0, WAY_FIELDS - 1) ? found.ofWay(i, what) : REFUSED;
    }

    public int leg(int i, int k, int what) {
        return found.hasLeg(i, k) && between(what, 0, LEG_FIELDS - 1)
                ? found.ofLeg(i, k, what)
                : REFUSED;
    }

    public int take(int i) {
        return found.has(i) ? tickets.make(found, i) : REFUSED;
    }

    public int give(int ticket) {
        if (!tickets.isOut(ticket)) {
            return REFUSED;
        }
        tickets.giveBack(ticket);
        return 1;
    }

    public int still(int ticket) {
        if (!tickets.isOut(ticket)) {
            return REFUSED;
        }
        int end = tickets.travel(ticket);
        return end < 0 ? -end : 0;
    }

    public int comes(int ticket) {
        return tickets.isOut(ticket) ? Math.max(NONE, tickets.travel(ticket)) : REFUSED;
    }

    public int taken(int trip, int day, int call) {
        return trips.hasCall(trip, call) && isDay(day) ? places.at(trip, day, call) : REFUSED;
    }

    public int latest(int from, int to, int day, int by) {
        if (!stops.has(from) || !stops.has(to) || !isDay(day)) {
            return REFUSED;
        }
        int start = DAY * day;
        runs.gather(day, start);
        // What can be made when one asks at a minute can be made from each earlier one, too.
        int best = NONE;
        for (int step = 1024; step > 0; step >>= 1) {
            int minute = best + step;
            if (minute < DAY) {
                search.askSoonest(from, start + minute);
                if (search.soonest[to] < NEVER && search.soonest[to] <= by) {
                    best = minute;
                }
            }
        }
        return best;
    }

    public int reach(int from, int day, int minute, int within) {
        if (!stops.has(from) || !isDay(day) || !isMinute(minute) || within < 0) {
            return REFUSED;
        }
        int time = DAY * day + minute;
        runs.gather(day, time);
        search.askSoonest(from, time);
        int reached = 0;
        for (int s = 0; s < stops.size; s++) {
            if (search.soonest[s] < NEVER && search.soonest[s] - time <= within) {
                reached |= 1 << s;
            }
        }
        return reached;
    }

    public int meet(int stops, int day, int minute) {
        if (stops == 0 || stops >>> this.stops.size != 0 || !isDay(day) || !isMinute(minute)) {
            return REFUSED;
        }
        gather(stops, day, minute);
        int where = NONE;
        for (int s = 0; s < this.stops.size; s++) {
            if (gathered[s] < (where < 0 ? NEVER : gathered[where])) {
                where = s;
            }
        }
        if (where >= 0) {
            metAt = gathered[where];
        }
        return where;
    }

    public int met() {
        return metAt;
    }

    public int table(int stop, int day, int i, int what) {
        if (!stops.has(stop) || !isDay(day) || !between(what, 0, 3)) {
            return REFUSED;
        }
        int calls = board.gather(stop, day);
        return between(i, 0, calls - 1) ? board.of(i, day, what) : NONE;
    }

    public int count(int what) {
        switch (what) {
            case 0:
                return stops.size;
            case 1:
                return trips.size;
            case 2:
                return walks.size;
            case 3:
                return found.size;
            case 4:
                return tickets.size;
            case 5:
                return tickets.out;
            case 6:
                return trips.delays.size;
            default:
                return REFUSED;
        }
    }

    private void gather(int crowd, int day, int minute) {
        int time = DAY * day + minute;
        runs.gather(day, time);
        Arrays.fill(gathered, time);
        for (int from = 0; from < stops.size; from++) {
            if ((crowd >> from & 1) != 0) {
                search.askSoonest(from, time);
                for (int s = 0; s < stops.size; s++) {
                    gathered[s] = Math.max(gathered[s], search.soonest[s]);
                }
            }
        }
    }

    private static boolean between(int x, int least, int most) {
        return x >= least && x <= most;
    }

    private static boolean isZone(int zone) {
        return between(zone, 0, ZONES - 1);
    }

    private static boolean isDay(int day) {
        return between(day, 0, DAYS - 1);
    }

    private static boolean isMinute(int minute) {
        return between(minute, 0, DAY - 1);
    }

    /** Numbers in their order. */
    private static final class Sorted {
        private final int[] keys;
        int size;

        Sorted(int most) {
            keys = new int[Math.max(0, most)];
        }

        int get(int i) {
            return i >= 0 && i < size ? keys[i] : 0;
        }

        void clear() {
            size = 0;
        }

        void insert(int key) {
            if (size >= keys.length) {
                return;
            }
            int at = size;
            while (at > 0 && keys[at - 1] > key) {
                keys[at] = keys[at - 1];
                at--;
            }
            keys[at] = key;
            size++;
        }
    }

    /** The stops, and the fares from zone to zone. */
    private static final class Stops {
        final int[] change = new int[STOPS];
        final int[] zone = new int[STOPS];
        final int[] prices = new int[ZONES * ZONES];
        int size;

        boolean has(int stop) {
            return stop >= 0 && stop < size;
        }

        int add(int itsChange, int itsZone) {
            if (size >= STOPS) {
                return REFUSED;
            }
            change[size] = itsChange;
            zone[size] = itsZone;
            return size++;
        }

        int price(int fromZone, int toZone, int price) {
            int was = prices[fromZone * ZONES + toZone];
            prices[fromZone * ZONES + toZone] = price;
            return was;
        }

        int priceOfRide(int from, int to) {
            return prices[zone[from] * ZONES + zone[to]];
        }

        int dearest() {
            int most = 0;
            for (int price : prices) {
                most = Math.max(most, price);
            }
            return most;
        }
    }

    /** What was told of trips that are late. */
    private static final class Delays {
        final int[] trip = new int[TOLD];
        final int[] day = new int[TOLD];
        final int[] call = new int[TOLD];
        final int[] minutes = new int[TOLD];
        int size;
        /** No trip of a day is later than this. */
        int total;

        int tell(int itsTrip, int itsDay, int itsCall, int itsMinutes) {
            if (size >= TOLD) {
                return REFUSED;
            }
            trip[size] = itsTrip;
            day[size] = itsDay;
            call[size] = itsCall;
            minutes[size] = itsMinutes;
            size++;
            total += itsMinutes;
            return sum(itsTrip, itsDay, itsCall);
        }

        int sum(int ofTrip, int ofDay, int ofCall) {
            int sum = 0;
            for (int n = 0; n < size; n++) {
                if (trip[n] == ofTrip && day[n] == ofDay && call[n] <= ofCall) {
                    sum += minutes[n];
                }
            }
            return sum;
        }
    }

    /** The trips with their calls (call k of a trip at trip * CALLS + k), and when they run. */
    private static final class Trips {
        final int[] kind = new int[TRIPS];
        final int[] days = new int[TRIPS];
        final int[] seats = new int[TRIPS];
        final int[] calls = new int[TRIPS];
        /** A bit for each call. */
        final int[] missed = new int[TRIPS];
        final int[] stopAt = new int[TRIPS * CALLS];
        final int[] arrives = new int[TRIPS * CALLS];
        final int[] departs = new int[TRIPS * CALLS];
        final int[] kindOfDay = new int[DAYS];
        /** Of each day a bit for each trip. */
        final int[] goneOn = new int[DAYS];
        final Delays delays = new Delays();
        int size;

        Trips() {
            for (int d = 0; d < DAYS; d++) {
                kindOfDay[d] = d % KINDS_OF_DAYS;
            }
        }

        boolean has(int trip) {
            return trip >= 0 && trip < size;
        }

        boolean hasCall(int trip, int call) {
            return has(trip) && call >= 0 && call < calls[trip];
        }

        int add(int itsKind, int itsDays, int itsSeats) {
            if (size >= TRIPS) {
                return REFUSED;
            }
            kind[size] = itsKind;
            days[size] = itsDays;
            seats[size] = itsSeats;
            return size++;
        }

        int addCall(int trip, int stop, int comes, int leaves) {
            int k = calls[trip];
            if (k >= CALLS) {
                return REFUSED;
            }
            int at = trip * CALLS + k;
            int earliest = k == 0 ? 0 : departs[at - 1];
            int last = kind[trip] == KIND_NIGHT ? 2 * DAY - 1 : DAY - 1;
            if (comes < earliest || leaves < comes || leaves > last) {
                return REFUSED;
            }
            stopAt[at] = stop;
            arrives[at] = comes;
            departs[at] = leaves;
            calls[trip]++;
            return k;
        }

        int setMissed(int trip, int call, boolean is) {
            int was = missed[trip] >> call & 1;
            missed[trip] = is ? missed[trip] | 1 << call : missed[trip] & ~(1 << call);
            return was;
        }

        int setGone(int trip, int day, boolean is) {
            int was = goneOn[day] >> trip & 1;
            goneOn[day] = is ? goneOn[day] | 1 << trip : goneOn[day] & ~(1 << trip);
            return was;
        }

        boolean isOpen(int trip, int call) {
            return (missed[trip] >> call & 1) == 0;
        }

        boolean runsOn(int trip, int day) {
            return (days[trip] >> kindOfDay[day] & 1) != 0 && (goneOn[day] >> trip & 1) == 0;
        }

        int comesAt(int trip, int day, int call) {
            return DAY * day + arrives[trip * CALLS + call] + delays.sum(trip, day, call);
        }

        int leavesAt(int trip, int day, int call) {
            return DAY * day + departs[trip * CALLS + call] + delays.sum(trip, day, call);
        }
    }

    /** The walks of all three kinds. */
    private static final class Walks {
        final int[] from = new int[WALKS];
        final int[] to = new int[WALKS];
        final int[] minutes = new int[WALKS];
        final int[] kind = new int[WALKS];
        final int[] first = new int[WALKS];
        final int[] last = new int[WALKS];
        final int[] every = new int[WALKS];
        final int[] ahead = new int[WALKS];
        int size;

        boolean has(int walk) {
            return walk >= 0 && walk < size;
        }

        int add(int itsFrom, int itsTo, int itsMinutes) {
            if (size >= WALKS) {
                return REFUSED;
            }
            from[size] = itsFrom;
            to[size] = itsTo;
            minutes[size] = itsMinutes;
            kind[size] = KIND_WALK;
            return size++;
        }

        int makeShuttle(int walk, int itsFirst, int itsLast, int itsEvery) {
            int was = kind[walk];
            kind[walk] = KIND_SHUTTLE;
            first[walk] = itsFirst;
            last[walk] = itsLast;
            every[walk] = itsEvery;
            return was;
        }

        int makeAsked(int walk, int itsAhead) {
            int was = kind[walk];
            kind[walk] = KIND_ASKED;
            ahead[walk] = itsAhead;
            return was;
        }

        /** When a walk begins for one who is there at a time, on a way asked for at another. */
        int beginsAt(int walk, int time, int askedAt) {
            if (kind[walk] == KIND_WALK) {
                return time;
            }
            boolean mustWait = kind[walk] == KIND_ASKED && time < askedAt + ahead[walk];
            return nextBeginning(walk, mustWait ? askedAt + ahead[walk] : time);
        }

        int endsAt(int walk, int time, int askedAt) {
            return time >= NEVER ? NEVER : beginsAt(walk, time, askedAt) + minutes[walk];
        }

        private int nextBeginning(int walk, int time) {
            int minute = time % DAY;
            int midnight = time - minute;
            if (minute <= first[walk]) {
                return midnight + first[walk];
            }
            int step = every[walk] < 1 ? DAY : every[walk];
            int next = first[walk] + (minute - first[walk] + step - 1) / step * step;
            return next <= last[walk] ? midnight + next : midnight + DAY + first[walk];
        }
    }

    /** The places that are taken: a row for each trip of a day that a ticket was made for. */
    private static final class Places {
        private final int[] keys = new int[TICKETS * RIDES];
        private final int[] taken = new int[TICKETS * RIDES * CALLS];
        private int size;

        int at(int trip, int day, int call) {
            int row = rowOf(trip, day);
            return row < 0 ? 0 : taken[row * CALLS + call];
        }

        /** From a call to the one before another one so many more (or fewer) are taken. */
        void change(int trip, int day, int on, int off, int by) {
            int row = rowOf(trip, day);
            if (row < 0) {
                row = newRow(trip, day);
            }
            for (int k = on; row >= 0 && k < off; k++) {
                taken[row * CALLS + k] += by;
            }
        }

        /** The calls, a bit for each, at which no place is left. */
        int full(int trip, int day, int seats) {
            int row = rowOf(trip, day);
            int full = 0;
            for (int k = 0; row >= 0 && k < CALLS; k++) {
                if (taken[row * CALLS + k] >= seats) {
                    full |= 1 << k;
                }
            }
            return full;
        }

        private int rowOf(int trip, int day) {
            int key = trip * DAYS + day;
            for (int row = 0; row < size; row++) {
                if (keys[row] == key) {
                    return row;
                }
            }
            return NONE;
        }

        private int newRow(int trip, int day) {
            if (size >= keys.length) {
                return NONE;
            }
            keys[size] = trip * DAYS + day;
            return size++;
        }
    }

    /** The tickets, with as much of their legs as tells how they are travelled now. */
    private static final class Tickets {
        private final Stops stops;
        private final Trips trips;
        private final Walks walks;
        private final Places places;
        private final int[] askedAt = new int[TICKETS];
        private final int[] legs = new int[TICKETS];
        private final boolean[] isGiven = new boolean[TICKETS];
        /** Leg k of a ticket at ticket * LEGS + k; the day of a walk is NONE. */
        private final int[] number = new int[TICKETS * LEGS];
        private final int[] day = new int[TICKETS * LEGS];
        private final int[] on = new int[TICKETS * LEGS];
        private final int[] off = new int[TICKETS * LEGS];
        int size;
        int out;

        Tickets(Stops stops, Trips trips, Walks walks, Places places) {
            this.stops = stops;
            this.trips = trips;
            this.walks = walks;
            this.places = places;
        }

        boolean isOut(int ticket) {
            return ticket >= 0 && ticket < size && !isGiven[ticket];
        }

        int make(Found found, int i) {
            if (size >= TICKETS || !hasPlaces(found, i)) {
                return REFUSED;
            }
            askedAt[size] = found.askedAt;
            legs[size] = found.ofWay(i, WAY_LEGS);
            for (int k = 0; k < legs[size]; k++) {
                int at = size * LEGS + k;
                number[at] = found.ofLeg(i, k, LEG_NUMBER);
                day[at] = found.ofLeg(i, k, LEG_DAY);
                on[at] = found.ofLeg(i, k, LEG_ON);
                off[at] = found.ofLeg(i, k, LEG_OFF);
            }
            changePlaces(size, 1);
            out++;
            return size++;
        }

        void giveBack(int ticket) {
            isGiven[ticket] = true;
            out--;
            changePlaces(ticket, -1);
        }

        /** When the way comes as all is now; if it can't be travelled, -1 less the leg that can't. */
        int travel(int ticket) {
            int time = askedAt[ticket];
            for (int k = 0; k < legs[ticket]; k++) {
                int at = ticket * LEGS + k;
                if (day[at] < 0) {
                    time = walks.endsAt(number[at], time, askedAt[ticket]);
                } else {
                    boolean changes = k > 0 && day[at - 1] >= 0;
                    if (!canRide(at, changes ? time + changeAt(at) : time)) {
                        return NONE - k;
                    }
                    time = trips.comesAt(number[at], day[at], off[at]);
                }
            }
            return time;
        }

        private int changeAt(int at) {
            return stops.change[trips.stopAt[number[at] * CALLS + on[at]]];
        }

        private boolean canRide(int at, int ready) {
            int trip = number[at];
            return trips.runsOn(trip, day[at])
                    && trips.isOpen(trip, on[at])
                    && trips.isOpen(trip, off[at])
                    && trips.leavesAt(trip, day[at], on[at]) >= ready;
        }

        private void changePlaces(int ticket, int by) {
            for (int k = 0; k < legs[ticket]; k++) {
                int at = ticket * LEGS + k;
                if (day[at] >= 0 && trips.kind[number[at]] != KIND_RIDE) {
                    places.change(number[at], day[at], on[at], off[at], by);
                }
            }
        }

        private boolean hasPlaces(Found found, int i) {
            for (int k = 0; k < found.ofWay(i, WAY_LEGS); k++) {
                int kind = found.ofLeg(i, k, LEG_KIND);
                if (kind > KIND_RIDE && kind <= KIND_NIGHT && !hasPlacesOn(found, i, k)) {
                    return false;
                }
            }
            return true;
        }

        private boolean hasPlacesOn(Found found, int i, int k) {
            int trip = found.ofLeg(i, k, LEG_NUMBER);
            int itsDay = found.ofLeg(i, k, LEG_DAY);
            for (int c = found.ofLeg(i, k, LEG_ON); c < found.ofLeg(i, k, LEG_OFF); c++) {
                int wanted = places.at(trip, itsDay, c) + found.ridesOver(i, trip, itsDay, c);
                if (wanted > trips.seats[trip]) {
                    return false;
                }
            }
            return true;
        }
    }

    /** The trips of days that can be ridden for a question, in order of days, then of trips. */
    private static final class Runs {
        final int[] trip = new int[RUNS];
        final int[] day = new int[RUNS];
        /** The calls, a bit for each, at which no place is left. */
        final int[] full = new int[RUNS];
        /** The TIMES at call k of run v at v * CALLS + k. */
        final int[] comes = new int[RUNS * CALLS];
        final int[] leaves = new int[RUNS * CALLS];
        int size;
        /** A way of the question comes before this TIME. */
        int end;
        private final Trips trips;
        private final Places places;

        Runs(Trips trips, Places places) {
            this.trips = trips;
            this.places = places;
        }

        /** Takes up all runs that one can be in from a time of a day on to the end of the next. */
        void gather(int ofDay, int time) {
            size = 0;
            end = DAY * (ofDay + 2);
            // A night lasts to the end of its next day, and whatever is late as much longer.
            int first = Math.max(0, Math.floorDiv(time - trips.delays.total, DAY) - 1);
            int last = Math.min(DAYS - 1, ofDay + 1);
            for (int d = first; d <= last; d++) {
                for (int t = 0; t < trips.size; t++) {
                    if (trips.calls[t] > 1 && trips.runsOn(t, d)) {
                        gatherRun(t, d, time);
                    }
                }
            }
        }

        private void gatherRun(int itsTrip, int itsDay, int time) {
            if (size >= RUNS) {
                return;
            }
            int calls = trips.calls[itsTrip];
            setTimes(itsTrip, itsDay, calls);
            if (comes[size * CALLS + calls - 1] < time || leaves[size * CALLS] >= end) {
                return;
            }
            trip[size] = itsTrip;
            day[size] = itsDay;
            full[size] = trips.kind[itsTrip] == KIND_RIDE
                    ? 0
                    : places.full(itsTrip, itsDay, trips.seats[itsTrip]);
            size++;
        }

        private void setTimes(int itsTrip, int itsDay, int calls) {
            int at = size * CALLS;
            for (int k = 0; k < calls; k++) {
                comes[at + k] = DAY * itsDay + trips.arrives[itsTrip * CALLS + k];
                leaves[at + k] = DAY * itsDay + trips.departs[itsTrip * CALLS + k];
            }
            Delays delays = trips.delays;
            for (int n = 0; n < delays.size; n++) {
                if (delays.trip[n] == itsTrip && delays.day[n] == itsDay) {
                    for (int k = delays.call[n]; k < calls; k++) {
                        comes[at + k] += delays.minutes[n];
                        leaves[at + k] += delays.minutes[n];
                    }
                }
            }
        }
    }

    /**
     * The soonest TIMES at all stops, by the number of rides and the exact fare. A later time at a
     * stop never makes a sooner one behind it, so that the soonest one stands for all.
     */
    private static final class Search {
        final Stops stops;
        final Trips trips;
        final Walks walks;
        final Runs runs;
        /** When one is at a stop by a ride (without rides: by being there), before any walk. */
        private final int[] ended = new int[LABELS * STOPS];
        /** When one can get on a next ride at a stop. */
        private final int[] ready = new int[RIDDEN_ON * STOPS];
        /** The soonest TIMES at the stops by any way, of the last askSoonest(). */
        final int[] soonest = new int[STOPS];
        private final int[] best = new int[STOPS];
        /** Of each zone in which one got on the fares, a bit for each, paid before. */
        private final int[] aboard = new int[ZONES];
        int askedAt;
        /** The greatest fare of a ride; 0 when fares don't count. */
        private int dearest;

        Search(Stops stops, Trips trips, Walks walks, Runs runs) {
            this.stops = stops;
            this.trips = trips;
            this.walks = walks;
            this.runs = runs;
        }

        /** Looks from a stop at a time through the runs that were gathered. */
        void ask(int from, int time, int dearestRide) {
            askedAt = time;
            dearest = dearestRide;
            Arrays.fill(ended, NEVER);
            Arrays.fill(ready, NEVER);
            ended[from] = time;
            for (int rides = 1; rides <= RIDES; rides++) {
                getReady(rides - 1);
                for (int v = 0; v < runs.size; v++) {
                    ride(rides, v);
                }
            }
        }

        /** Looks likewise for the soonest TIMES alone, whatever the fare; NEVER where none is. */
        void askSoonest(int from, int time) {
            ask(from, time, 0);
            for (int s = 0; s < stops.size; s++) {
                best[s] = NEVER;
                for (int rides = 0; rides <= RIDES; rides++) {
                    best[s] = Math.min(best[s], ended[row(rides, 0) + s]);
                }
                soonest[s] = best[s];
            }
            for (int w = 0; w < walks.size; w++) {
                int end = walks.endsAt(w, best[walks.from[w]], askedAt);
                if (end < runs.end) {
                    soonest[walks.to[w]] = Math.min(soonest[walks.to[w]], end);
                }
            }
        }

        /** The greatest fare of so many rides. */
        int mostFare(int rides) {
            return dearest * rides;
        }

        int endedAt(int rides, int fare, int stop) {
            return canCost(rides, fare) ? ended[row(rides, fare) + stop] : NEVER;
        }

        int readyAt(int rides, int fare, int stop) {
            return rides < RIDES && canCost(rides, fare) ? ready[row(rides, fare) + stop] : NEVER;
        }

        /** When the soonest way of so many rides and this fare comes to a stop, NEVER if none. */
        int arrival(int rides, int fare, int stop) {
            int soon = endedAt(rides, fare, stop);
            for (int w = 0; w < walks.size; w++) {
                if (walks.to[w] == stop) {
                    int from = endedAt(rides, fare, walks.from[w]);
                    soon = Math.min(soon, walks.endsAt(w, from, askedAt));
                }
            }
            return soon < runs.end ? soon : NEVER;
        }

        private boolean canCost(int rides, int fare) {
            return between(rides, 0, RIDES) && between(fare, 0, mostFare(rides));
        }

        /** Where the stops of a label begin: those of fewer rides and lesser fares lie ahead. */
        private int row(int rides, int fare) {
            return (rides + dearest * (rides * (rides - 1) / 2) + fare) * STOPS;
        }

        private void getReady(int rides) {
            for (int fare = 0; fare <= mostFare(rides); fare++) {
                int row = row(rides, fare);
                for (int s = 0; s < stops.size; s++) {
                    if (ended[row + s] < NEVER) {
                        ready[row + s] = ended[row + s] + (rides == 0 ? 0 : stops.change[s]);
                    }
                }
                for (int w = 0; w < walks.size; w++) {
                    int to = row + walks.to[w];
                    int end = walks.endsAt(w, ended[row + walks.from[w]], askedAt);
                    ready[to] = Math.min(ready[to], end);
                }
            }
        }

        /** Goes along a run, with all who can get on and be its riders for this ride of theirs. */
        private void ride(int rides, int v) {
            int trip = runs.trip[v];
            Arrays.fill(aboard, 0);
            for (int k = 0; k < trips.calls[trip]; k++) {
                boolean open = trips.isOpen(trip, k);
                if (open) {
                    getOff(rides, v, k);
                }
                if ((runs.full[v] >> k & 1) != 0) {
                    Arrays.fill(aboard, 0);
                } else if (open) {
                    getOn(rides, v, k);
                }
            }
        }

        private void getOff(int rides, int v, int k) {
            int stop = trips.stopAt[runs.trip[v] * CALLS + k];
            int time = runs.comes[v * CALLS + k];
            int fares = time < runs.end ? faresTo(stops.zone[stop]) : 0;
            for (int fare = 0; fares >>> fare != 0 && fare <= mostFare(rides); fare++) {
                if ((fares >> fare & 1) != 0) {
                    int at = row(rides, fare) + stop;
                    ended[at] = Math.min(ended[at], time);
                }
            }
        }

        private int faresTo(int zone) {
            int fares = 0;
            for (int z = 0; z < ZONES; z++) {
                fares |= aboard[z] << (dearest == 0 ? 0 : stops.prices[z * ZONES + zone]);
            }
            return fares;
        }

        private void getOn(int rides, int v, int k) {
            int stop = trips.stopAt[runs.trip[v] * CALLS + k];
            int time = runs.leaves[v * CALLS + k];
            int at = row(rides - 1, 0) + stop;
            for (int fare = 0; fare <= mostFare(rides - 1); fare++) {
                if (ready[at] <= time) {
                    aboard[stops.zone[stop]] |= 1 << fare;
                }
                at += STOPS;
            }
        }
    }

    /** The ways at hand, as they were found. */
    private static final class Found {
        private final Search search;
        private final int[] heads = new int[LABELS * WAY_FIELDS];
        private final int[] legs = new int[LABELS * LEGS * LEG_FIELDS];
        /** Arrival, rides and fare of each way in one number, in their order. */
        private final Sorted keys = new Sorted(LABELS);
        /** The least TIME of the ways looked at so far, of each fare. */
        private final int[] least = new int[FARES];
        /** The way that is traced: the walk behind so many rides (NONE: none). */
        private final int[] walkBehind = new int[RIDES + 1];
        /** Likewise of the so manieth ride: its run, and the calls. */
        private final int[] run = new int[RIDES + 1];
        private final int[] on = new int[RIDES + 1];
        private final int[] off = new int[RIDES + 1];
        int size;
        /** The TIME of the question. */
        int askedAt;

        Found(Search search) {
            this.search = search;
        }

        boolean has(int i) {
            return i >= 0 && i < size;
        }

        boolean hasLeg(int i, int k) {
            return has(i) && k >= 0 && k < ofWay(i, WAY_LEGS);
        }

        int ofWay(int i, int what) {
            return heads[i * WAY_FIELDS + what];
        }

        int ofLeg(int i, int k, int what) {
            return legs[(i * LEGS + k) * LEG_FIELDS + what];
        }

        /** How many rides of a way are in a trip of a day when it leaves a call. */
        int ridesOver(int i, int trip, int day, int call) {
            int rides = 0;
            for (int k = 0; k < ofWay(i, WAY_LEGS); k++) {
                if (ofLeg(i, k, LEG_NUMBER) == trip && ofLeg(i, k, LEG_DAY) == day
                        && ofLeg(i, k, LEG_ON) <= call && call < ofLeg(i, k, LEG_OFF)) {
                    rides++;
                }
            }
            return rides;
        }

        /** Takes up THE WAYS to a stop that the search has found: how many. */
        int collect(int to) {
            askedAt = search.askedAt;
            keys.clear();
            Arrays.fill(least, NEVER);
            for (int rides = 0; rides <= RIDES; rides++) {
                for (int fare = 0; fare <= search.mostFare(rides); fare++) {
                    int arrival = search.arrival(rides, fare, to);
                    if (isUnbeaten(fare, arrival)) {
                        keys.insert(((arrival - askedAt) * (RIDES + 1) + rides) * FARES + fare);
                    }
                }
            }
            size = keys.size;
            for (int i = 0; i < size; i++) {
                int fare = keys.get(i) % FARES;
                int rides = keys.get(i) / FARES % (RIDES + 1);
                int arrival = askedAt + keys.get(i) / FARES / (RIDES + 1);
                trace(rides, fare, to, arrival);
                write(i, rides, fare);
            }
            return size;
        }

        /** All that were looked at before have no more rides, so that fare and arrival decide. */
        private boolean isUnbeaten(int fare, int arrival) {
            if (arrival >= least[fare]) {
                return false;
            }
            for (int f = fare; f < FARES; f++) {
                least[f] = Math.min(least[f], arrival);
            }
            return true;
        }

        /**
         * Finds the legs of the way, from its end backwards: at each step the least one ahead of
         * which all can still be made, by this fare, in time for what was found behind it.
         */
        private void trace(int rides, int fare, int to, int arrival) {
            int stop = to;
            int by = arrival;
            int change = 0;
            int left = fare;
            for (int r = rides; r >= 0; r--) {
                walkBehind[r] = leastWalk(r, left, stop, by, change);
                if (r > 0) {
                    leastRide(r, left, walkBehind[r], stop, by, change);
                    int trip = search.runs.trip[run[r]];
                    int begin = search.trips.stopAt[trip * CALLS + on[r]];
                    int end = search.trips.stopAt[trip * CALLS + off[r]];
                    left -= search.stops.priceOfRide(begin, end);
                    stop = begin;
                    by = search.runs.leaves[run[r] * CALLS + on[r]];
                    change = r > 1 ? search.stops.change[begin] : 0;
                }
            }
        }

        private int leastWalk(int rides, int fare, int stop, int by, int change) {
            if (search.endedAt(rides, fare, stop) + change <= by) {
                return NONE;
            }
            Walks walks = search.walks;
            for (int w = 0; w < walks.size; w++) {
                if (walks.to[w] == stop
                        && walks.endsAt(w, search.endedAt(rides, fare, walks.from[w]), askedAt) <= by) {
                    return w;
                }
            }
            return NONE;
        }

        /** The least ride, with this walk behind it, that is at a stop in time. */
        private void leastRide(int rides, int fare, int walk, int stop, int by, int change) {
            for (int v = 0; v < search.runs.size; v++) {
                int offs = callsInTime(v, walk, stop, by, change);
                for (int i = 0; offs != 0 && i < CALLS - 1; i++) {
                    int j = firstOff(v, i, offs);
                    if (j > i && canGetOn(rides, fare, v, i, j)) {
                        run[rides] = v;
                        on[rides] = i;
                        off[rides] = j;
                        return;
                    }
                }
            }
        }

        /** The calls of a run, a bit for each, at which one gets off in time. */
        private int callsInTime(int v, int walk, int stop, int by, int change) {
            int where = walk < 0 ? stop : search.walks.from[walk];
            int trip = search.runs.trip[v];
            int calls = 0;
            for (int k = 0; k < search.trips.calls[trip]; k++) {
                if (search.trips.stopAt[trip * CALLS + k] == where && search.trips.isOpen(trip, k)) {
                    int time = search.runs.comes[v * CALLS + k];
                    int there = walk < 0 ? time + change : search.walks.endsAt(walk, time, askedAt);
                    calls |= there <= by ? 1 << k : 0;
                }
            }
            return calls;
        }

        /** The first of these calls behind call i, NONE if places lack on the way to it. */
        private int firstOff(int v, int i, int offs) {
            for (int k = i; k < CALLS; k++) {
                if (k > i && (offs >> k & 1) != 0) {
                    return k;
                }
                if ((search.runs.full[v] >> k & 1) != 0) {
                    return NONE;
                }
            }
            return NONE;
        }

        private boolean canGetOn(int rides, int fare, int v, int i, int j) {
            int trip = search.runs.trip[v];
            int stop = search.trips.stopAt[trip * CALLS + i];
            int before = fare - search.stops.priceOfRide(stop, search.trips.stopAt[trip * CALLS + j]);
            return search.trips.isOpen(trip, i)
                    && search.readyAt(rides - 1, before, stop) <= search.runs.leaves[v * CALLS + i];
        }

        private void write(int i, int rides, int fare) {
            int time = askedAt;
            int k = 0;
            for (int r = 0; r <= rides; r++) {
                if (r > 0) {
                    time = writeRide(i * LEGS + k++, run[r], on[r], off[r]);
                }
                if (walkBehind[r] >= 0) {
                    time = writeWalk(i * LEGS + k++, walkBehind[r], time);
                }
            }
            int at = i * WAY_FIELDS;
            heads[at + WAY_BEGINS] = k == 0 ? askedAt : ofLeg(i, 0, LEG_BEGINS);
            heads[at + WAY_COMES] = time;
            heads[at + WAY_RIDES] = rides;
            heads[at + WAY_FARE] = fare;
            heads[at + WAY_LEGS] = k;
        }

        private int writeRide(int leg, int v, int i, int j) {
            int at = leg * LEG_FIELDS;
            int trip = search.runs.trip[v];
            legs[at + LEG_KIND] = search.trips.kind[trip];
            legs[at + LEG_NUMBER] = trip;
            legs[at + LEG_FROM] = search.trips.stopAt[trip * CALLS + i];
            legs[at + LEG_TO] = search.trips.stopAt[trip * CALLS + j];
            legs[at + LEG_BEGINS] = search.runs.leaves[v * CALLS + i];
            legs[at + LEG_COMES] = search.runs.comes[v * CALLS + j];
            legs[at + LEG_DAY] = search.runs.day[v];
            legs[at + LEG_ON] = i;
            legs[at + LEG_OFF] = j;
            return legs[at + LEG_COMES];
        }

        private int writeWalk(int leg, int walk, int time) {
            int at = leg * LEG_FIELDS;
            Walks walks = search.walks;
            legs[at + LEG_KIND] = walks.kind[walk];
            legs[at + LEG_NUMBER] = walk;
            legs[at + LEG_FROM] = walks.from[walk];
            legs[at + LEG_TO] = walks.to[walk];
            legs[at + LEG_BEGINS] = walks.beginsAt(walk, time, askedAt);
            legs[at + LEG_COMES] = walks.endsAt(walk, time, askedAt);
            legs[at + LEG_DAY] = NONE;
            legs[at + LEG_ON] = NONE;
            legs[at + LEG_OFF] = NONE;
            return legs[at + LEG_COMES];
        }
    }

    /** The calls that trips of a day make at a stop, in order. */
    private static final class Board {
        private final Trips trips;
        /** When it leaves, trip and call in one number: its order is the order of the calls. */
        private final Sorted keys = new Sorted(TRIPS * CALLS);

        Board(Trips trips) {
            this.trips = trips;
        }

        /** Takes up all of them: how many. */
        int gather(int stop, int day) {
            keys.clear();
            for (int t = 0; t < trips.size; t++) {
                if (trips.runsOn(t, day)) {
                    gatherTrip(t, stop, day);
                }
            }
            return keys.size;
        }

        int of(int i, int day, int what) {
            int trip = keys.get(i) / CALLS % TRIPS;
            int call = keys.get(i) % CALLS;
            switch (what) {
                case 0:
                    return trip;
                case 1:
                    return call;
                case 2:
                    return trips.comesAt(trip, day, call) - DAY * day;
                default:
                    return trips.leavesAt(trip, day, call) - DAY * day;
            }
        }

        private void gatherTrip(int trip, int stop, int day) {
            for (int k = 0; k < trips.calls[trip]; k++) {
                if (trips.stopAt[trip * CALLS + k] == stop && trips.isOpen(trip, k)) {
                    int minute = trips.leavesAt(trip, day, k) - DAY * day;
                    keys.insert((minute * TRIPS + trip) * CALLS + k);
                }
            }
        }
    }
}
