import java.util.ArrayList;
import java.util.Arrays;
import java.util.Comparator;
import java.util.HashMap;
import java.util.List;
import java.util.Map;
import java.util.TreeMap;

/**
 * The document told over in the plainest way: it lists every way there is and compares them all.
 * It has the face of ConnectionDesk and none of its thrift; the tests hold one against the other.
 */
class PlainDesk {
    record Stop(int change, int zone) { }

    record Call(int stop, int comes, int leaves) { }

    record Delay(int trip, int day, int call, int minutes) { }

    static final class Trip {
        int kind, days, seats;
        final List<Call> calls = new ArrayList<>();
        final List<Boolean> missed = new ArrayList<>();
    }

    static final class Walk {
        int from, to, minutes, kind = 3, first, last, every, ahead;
    }

    record Leg(int kind, int number, int from, int to, int begins, int comes, int day, int on, int off) {
        boolean isRide() {
            return kind <= 2;
        }

        int get(int what) {
            return new int[] {kind, number, from, to, begins, comes, day, on, off}[what];
        }
    }

    record Way(int asked, List<Leg> legs, int comes, int rides, int fare) {
        int get(int what) {
            int begins = legs.isEmpty() ? asked : legs.get(0).begins;
            return new int[] {begins, comes, rides, fare, legs.size()}[what];
        }

        /** What tells ways of the same worth apart, from the end backwards; -1 is no walk. */
        List<Integer> backwards() {
            List<Integer> row = new ArrayList<>();
            boolean walkTold = false;
            for (int k = legs.size() - 1; k >= 0; k--) {
                Leg leg = legs.get(k);
                if (!leg.isRide()) {
                    row.add(leg.number);
                    walkTold = true;
                } else {
                    if (!walkTold) {
                        row.add(-1);
                    }
                    row.addAll(List.of(leg.day, leg.number, leg.on, leg.off));
                    walkTold = false;
                }
            }
            if (!walkTold) {
                row.add(-1);
            }
            return row;
        }
    }

    static final class Ticket {
        Way way;
        boolean given;
    }

    final List<Stop> stops = new ArrayList<>();
    final int[][] fares = new int[4][4];
    final int[] kinds = new int[100];
    final List<Trip> trips = new ArrayList<>();
    final List<Walk> walks = new ArrayList<>();
    final List<Delay> delays = new ArrayList<>();
    final Map<Integer, Boolean> gone = new HashMap<>();
    List<Way> hand = new ArrayList<>();
    final List<Ticket> tickets = new ArrayList<>();
    int met = -1;

    PlainDesk() {
        for (int d = 0; d < 100; d++) {
            kinds[d] = d % 7;
        }
    }

    boolean isStop(int s) {
        return 0 <= s && s < stops.size();
    }

    boolean isTrip(int t) {
        return 0 <= t && t < trips.size();
    }

    boolean isCall(int t, int c) {
        return isTrip(t) && 0 <= c && c < trips.get(t).calls.size();
    }

    boolean isWalk(int w) {
        return 0 <= w && w < walks.size();
    }

    boolean isDay(int d) {
        return 0 <= d && d < 100;
    }

    int stop(int change, int zone) {
        if (change < 0 || change > 30 || zone < 0 || zone > 3 || stops.size() == 12) return -2;
        stops.add(new Stop(change, zone));
        return stops.size() - 1;
    }

    int fare(int from, int to, int fare) {
        if (from < 0 || from > 3 || to < 0 || to > 3 || fare < 0 || fare > 9) return -2;
        int was = fares[from][to];
        fares[from][to] = fare;
        return was;
    }

    int day(int d, int kind) {
        if (!isDay(d) || kind < 0 || kind > 6) return -2;
        int was = kinds[d];
        kinds[d] = kind;
        return was;
    }

    int trip(int kind, int days, int seats) {
        if (kind < 0 || kind > 2 || days < 1 || days > 127 || trips.size() == 24) return -2;
        if (kind == 0 ? seats != 0 : seats < 1 || seats > 50) return -2;
        Trip trip = new Trip();
        trip.kind = kind;
        trip.days = days;
        trip.seats = seats;
        trips.add(trip);
        return trips.size() - 1;
    }

    int call(int t, int stop, int comes, int leaves) {
        if (!isTrip(t) || !isStop(stop)) return -2;
        Trip trip = trips.get(t);
        int n = trip.calls.size();
        if (n == 8 || comes < 0 || leaves < comes || leaves > (trip.kind == 2 ? 2879 : 1439)) return -2;
        if (n > 0 && comes < trip.calls.get(n - 1).leaves) return -2;
        trip.calls.add(new Call(stop, comes, leaves));
        trip.missed.add(false);
        return n;
    }

    int miss(int t, int c, boolean is) {
        if (!isCall(t, c)) return -2;
        return trips.get(t).missed.set(c, is) ? 1 : 0;
    }

    int walk(int from, int to, int minutes) {
        if (!isStop(from) || !isStop(to) || from == to || minutes < 1 || minutes > 240) return -2;
        if (walks.size() == 20) return -2;
        Walk walk = new Walk();
        walk.from = from;
        walk.to = to;
        walk.minutes = minutes;
        walks.add(walk);
        return walks.size() - 1;
    }

    int shuttle(int w, int first, int last, int every) {
        if (!isWalk(w) || first < 0 || first > 1439 || last < first || last > 1439) return -2;
        if (every < 1 || every > 1440) return -2;
        Walk walk = walks.get(w);
        int was = walk.kind;
        walk.kind = 4;
        walk.first = first;
        walk.last = last;
        walk.every = every;
        return was;
    }

    int asked(int w, int ahead) {
        if (!isWalk(w) || walks.get(w).kind == 3 || ahead < 1 || ahead > 600) return -2;
        int was = walks.get(w).kind;
        walks.get(w).kind = 5;
        walks.get(w).ahead = ahead;
        return was;
    }

    int late(int t, int d, int c, int minutes) {
        if (!isCall(t, c) || !isDay(d) || minutes < 1 || minutes > 240 || delays.size() == 60) return -2;
        delays.add(new Delay(t, d, c, minutes));
        return lateness(t, d, c);
    }

    int gone(int t, int d, boolean is) {
        if (!isTrip(t) || !isDay(d)) return -2;
        Boolean was = gone.put(t * 100 + d, is);
        return was != null && was ? 1 : 0;
    }

    int lateness(int t, int d, int c) {
        return delays.stream().filter(x -> x.trip == t && x.day == d && x.call <= c).mapToInt(x -> x.minutes).sum();
    }

    boolean runs(int t, int d) {
        return (trips.get(t).days & 1 << kinds[d]) != 0 && !gone.getOrDefault(t * 100 + d, false);
    }

    int comesAt(int t, int d, int c) {
        return 1440 * d + trips.get(t).calls.get(c).comes + lateness(t, d, c);
    }

    int leavesAt(int t, int d, int c) {
        return 1440 * d + trips.get(t).calls.get(c).leaves + lateness(t, d, c);
    }

    int fareOf(Leg leg) {
        return fares[stops.get(leg.from).zone][stops.get(leg.to).zone];
    }

    /** Minute by minute, until the walk can begin. */
    int beginning(Walk walk, int from, int asked) {
        if (walk.kind == 3) return from;
        for (int time = from;; time++) {
            int m = time % 1440;
            boolean begins = m >= walk.first && m <= walk.last && (m - walk.first) % walk.every == 0;
            if (begins && (walk.kind == 4 || time >= asked + walk.ahead)) return time;
        }
    }

    /** Every ride that one can be in between two times. */
    List<Leg> rides(int from, int before) {
        List<Leg> all = new ArrayList<>();
        for (int d = 0; d < 100; d++) {
            for (int t = 0; t < trips.size(); t++) {
                if (!runs(t, d)) continue;
                Trip trip = trips.get(t);
                for (int i = 0; i < trip.calls.size(); i++) {
                    if (trip.missed.get(i) || leavesAt(t, d, i) < from || leavesAt(t, d, i) >= before) continue;
                    for (int j = i + 1; j < trip.calls.size(); j++) {
                        if (trip.missed.get(j) || comesAt(t, d, j) >= before) continue;
                        boolean free = true;
                        for (int c = i; c < j; c++) {
                            free &= trip.kind == 0 || taken(t, d, c) < trip.seats;
                        }
                        if (free) {
                            all.add(new Leg(trip.kind, t, trip.calls.get(i).stop, trip.calls.get(j).stop,
                                    leavesAt(t, d, i), comesAt(t, d, j), d, i, j));
                        }
                    }
                }
            }
        }
        return all;
    }

    /** All ways from a stop, by where they end. */
    List<List<Way>> allWays(int from, int day, int minute) {
        int asked = 1440 * day + minute;
        int before = 1440 * (day + 2);
        List<List<Way>> all = new ArrayList<>();
        List<List<Leg>> ridesFrom = new ArrayList<>();
        for (int s = 0; s < stops.size(); s++) {
            all.add(new ArrayList<>());
            ridesFrom.add(new ArrayList<>());
        }
        for (Leg ride : rides(asked, before)) {
            ridesFrom.get(ride.from).add(ride);
        }
        extend(new ArrayList<>(), from, asked, before, 0, 0, ridesFrom, all, asked);
        return all;
    }

    private void extend(List<Leg> legs, int at, int time, int before, int rides, int fare,
            List<List<Leg>> ridesFrom, List<List<Way>> all, int asked) {
        all.get(at).add(new Way(asked, List.copyOf(legs), time, rides, fare));
        Leg last = legs.isEmpty() ? null : legs.get(legs.size() - 1);
        if (last == null || last.isRide()) {
            for (int w = 0; w < walks.size(); w++) {
                Walk walk = walks.get(w);
                if (walk.from != at) continue;
                int begins = beginning(walk, time, asked);
                int comes = begins + walk.minutes;
                if (comes >= before) continue;
                legs.add(new Leg(walk.kind, w, at, walk.to, begins, comes, -1, -1, -1));
                extend(legs, walk.to, comes, before, rides, fare, ridesFrom, all, asked);
                legs.remove(legs.size() - 1);
            }
        }
        if (rides == 3) return;
        int ready = last != null && last.isRide() ? time + stops.get(at).change : time;
        for (Leg ride : ridesFrom.get(at)) {
            if (ride.begins >= ready) {
                legs.add(ride);
                extend(legs, ride.to, ride.comes, before, rides + 1, fare + fareOf(ride), ridesFrom, all, asked);
                legs.remove(legs.size() - 1);
            }
        }
    }

    static boolean beats(Way a, Way b) {
        return a.comes <= b.comes && a.rides <= b.rides && a.fare <= b.fare
                && (a.comes < b.comes || a.rides < b.rides || a.fare < b.fare);
    }

    static int compareRows(List<Integer> a, List<Integer> b) {
        for (int k = 0; k < Math.min(a.size(), b.size()); k++) {
            if (!a.get(k).equals(b.get(k))) return Integer.compare(a.get(k), b.get(k));
        }
        return Integer.compare(a.size(), b.size());
    }

    int ways(int from, int to, int day, int minute) {
        if (!isStop(from) || !isStop(to) || !isDay(day) || minute < 0 || minute > 1439) return -2;
        Map<List<Integer>, Way> least = new HashMap<>();
        for (Way way : allWays(from, day, minute).get(to)) {
            least.merge(List.of(way.comes, way.rides, way.fare), way,
                    (a, b) -> compareRows(a.backwards(), b.backwards()) <= 0 ? a : b);
        }
        List<Way> best = new ArrayList<>();
        for (Way way : least.values()) {
            if (least.values().stream().noneMatch(other -> beats(other, way))) best.add(way);
        }
        best.sort(Comparator.comparingInt(Way::comes).thenComparingInt(Way::rides).thenComparingInt(Way::fare));
        hand = best;
        return best.size();
    }

    int way(int i, int what) {
        if (i < 0 || i >= hand.size() || what < 0 || what > 4) return -2;
        return hand.get(i).get(what);
    }

    int leg(int i, int k, int what) {
        if (i < 0 || i >= hand.size() || k < 0 || k >= hand.get(i).legs.size() || what < 0 || what > 8) return -2;
        return hand.get(i).legs.get(k).get(what);
    }

    int take(int i) {
        if (i < 0 || i >= hand.size() || tickets.size() == 30) return -2;
        Ticket ticket = new Ticket();
        ticket.way = hand.get(i);
        tickets.add(ticket);
        for (Leg leg : ticket.way.legs) {
            if (!leg.isRide() || leg.kind == 0) continue;
            for (int c = leg.on; c < leg.off; c++) {
                if (taken(leg.number, leg.day, c) > trips.get(leg.number).seats) {
                    tickets.remove(tickets.size() - 1);
                    return -2;
                }
            }
        }
        return tickets.size() - 1;
    }

    boolean isOut(int n) {
        return n >= 0 && n < tickets.size() && !tickets.get(n).given;
    }

    int give(int n) {
        if (!isOut(n)) return -2;
        tickets.get(n).given = true;
        return 1;
    }

    int[] travel(int n) {
        Way way = tickets.get(n).way;
        int time = way.asked;
        for (int k = 0; k < way.legs.size(); k++) {
            Leg leg = way.legs.get(k);
            if (!leg.isRide()) {
                Walk walk = walks.get(leg.number);
                time = beginning(walk, time, way.asked) + walk.minutes;
                continue;
            }
            int ready = k > 0 && way.legs.get(k - 1).isRide() ? time + stops.get(leg.from).change : time;
            Trip trip = trips.get(leg.number);
            if (!runs(leg.number, leg.day) || trip.missed.get(leg.on) || trip.missed.get(leg.off)
                    || leavesAt(leg.number, leg.day, leg.on) < ready) {
                return new int[] {1 + k, -1};
            }
            time = comesAt(leg.number, leg.day, leg.off);
        }
        return new int[] {0, time};
    }

    int still(int n) {
        return isOut(n) ? travel(n)[0] : -2;
    }

    int comes(int n) {
        return isOut(n) ? travel(n)[1] : -2;
    }

    int taken(int t, int d, int c) {
        if (!isCall(t, c) || !isDay(d)) return -2;
        int sum = 0;
        for (Ticket ticket : tickets) {
            if (ticket.given) continue;
            for (Leg leg : ticket.way.legs) {
                if (leg.isRide() && leg.kind != 0 && leg.number == t && leg.day == d && leg.on <= c && c < leg.off) {
                    sum++;
                }
            }
        }
        return sum;
    }

    /** When the soonest way comes to each stop; none: the greatest int. */
    int[] soonest(int from, int day, int minute) {
        int[] times = new int[stops.size()];
        List<List<Way>> all = allWays(from, day, minute);
        for (int s = 0; s < times.length; s++) {
            times[s] = all.get(s).stream().mapToInt(Way::comes).min().orElse(Integer.MAX_VALUE);
        }
        return times;
    }

    int latest(int from, int to, int day, int by) {
        if (!isStop(from) || !isStop(to) || !isDay(day)) return -2;
        for (int m = 1439; m >= 0; m--) {
            int comes = soonest(from, day, m)[to];
            if (comes != Integer.MAX_VALUE && comes <= by) return m;
        }
        return -1;
    }

    int reach(int from, int day, int minute, int within) {
        if (!isStop(from) || !isDay(day) || minute < 0 || minute > 1439 || within < 0) return -2;
        int[] times = soonest(from, day, minute);
        int bits = 0;
        for (int s = 0; s < times.length; s++) {
            if (times[s] != Integer.MAX_VALUE && times[s] - (long) (1440 * day + minute) <= within) bits |= 1 << s;
        }
        return bits;
    }

    int meet(int who, int day, int minute) {
        if (who == 0 || (who & -(1 << stops.size())) != 0 || !isDay(day) || minute < 0 || minute > 1439) return -2;
        int[] last = new int[stops.size()];
        Arrays.fill(last, -1);
        for (int s = 0; s < last.length; s++) {
            if ((who & 1 << s) == 0) continue;
            int[] times = soonest(s, day, minute);
            for (int k = 0; k < last.length; k++) {
                last[k] = Math.max(last[k], times[k]);
            }
        }
        TreeMap<Integer, Integer> order = new TreeMap<>();
        for (int k = 0; k < last.length; k++) {
            order.putIfAbsent(last[k], k);
        }
        if (order.firstKey() == Integer.MAX_VALUE) return -1;
        met = order.firstKey();
        return order.firstEntry().getValue();
    }

    int met() {
        return met;
    }

    int table(int stop, int day, int i, int what) {
        if (!isStop(stop) || !isDay(day) || what < 0 || what > 3) return -2;
        List<int[]> rows = new ArrayList<>();
        for (int t = 0; t < trips.size(); t++) {
            for (int c = 0; c < trips.get(t).calls.size() && runs(t, day); c++) {
                if (trips.get(t).calls.get(c).stop == stop && !trips.get(t).missed.get(c)) {
                    rows.add(new int[] {t, c, comesAt(t, day, c) - 1440 * day, leavesAt(t, day, c) - 1440 * day});
                }
            }
        }
        rows.sort(Comparator.comparingInt((int[] r) -> r[3]).thenComparingInt(r -> r[0]).thenComparingInt(r -> r[1]));
        return i < 0 || i >= rows.size() ? -1 : rows.get(i)[what];
    }

    int count(int what) {
        switch (what) {
            case 0: return stops.size();
            case 1: return trips.size();
            case 2: return walks.size();
            case 3: return hand.size();
            case 4: return tickets.size();
            case 5: return (int) tickets.stream().filter(t -> !t.given).count();
            case 6: return delays.size();
            default: return -2;
        }
    }
}
