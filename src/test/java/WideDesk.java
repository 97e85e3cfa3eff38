import java.util.ArrayList;
import java.util.Arrays;
import java.util.Comparator;
import java.util.List;

/**
 * A plain desk for networks that are too wide to list all their ways: it marks every single ride by which
 * fares one can be in it as the first, second or third one. It keeps no soonest TIMES, as ConnectionDesk does,
 * so that both can't err alike there.
 */
final class WideDesk extends PlainDesk {
    private int from;
    private int asked;
    private int before;
    private List<Leg> all;
    /** The numbers of the rides that end at each stop, in order of days, trips and calls. */
    private List<List<Integer>> endingAt;
    /** Of each number of rides and each ride a bit for each fare, that ride's counted. */
    private final long[][] fares = new long[4][];

    /** When one is at the end of this walk (-1: none) who is ahead of it at a time. */
    private int end(int walk, int time) {
        return walk < 0 ? time : beginning(walks.get(walk), time, asked) + walks.get(walk).minutes;
    }

    /** Whether one who is at a stop at a time without a ride just before can be in a ride, by a walk or none. */
    private boolean joins(int walk, int stop, int time, boolean changes, Leg ride) {
        if (walk < 0) {
            return stop == ride.from() && time + (changes ? stops.get(stop).change() : 0) <= ride.begins();
        }
        return walks.get(walk).from == stop && walks.get(walk).to == ride.from() && end(walk, time) <= ride.begins();
    }

    private void mark(int start, int day, int minute) {
        from = start;
        asked = 1440 * day + minute;
        before = 1440 * (day + 2);
        all = new ArrayList<>();
        for (int d = Math.max(0, day - 13); d <= Math.min(99, day + 1); d++) {
            all.addAll(ridesOf(d));
        }
        endingAt = new ArrayList<>();
        for (int s = 0; s < stops.size(); s++) {
            endingAt.add(new ArrayList<>());
        }
        for (int n = 0; n < all.size(); n++) {
            endingAt.get(all.get(n).to()).add(n);
        }
        for (int rides = 1; rides <= 3; rides++) {
            fares[rides] = new long[all.size()];
            for (int n = 0; n < all.size(); n++) {
                fares[rides][n] = faresAhead(rides, all.get(n)) << fareOf(all.get(n));
            }
        }
    }

    private List<Leg> ridesOf(int d) {
        List<Leg> some = new ArrayList<>();
        for (int t = 0; t < trips.size(); t++) {
            Trip trip = trips.get(t);
            int calls = runs(t, d) ? trip.calls.size() : 0;
            for (int i = 0; i < calls; i++) {
                boolean free = !trip.missed.get(i) && leavesAt(t, d, i) >= asked;
                for (int j = i + 1; j < calls && free; j++) {
                    free = trip.kind == 0 || taken(t, d, j - 1) < trip.seats;
                    if (free && !trip.missed.get(j) && comesAt(t, d, j) < before) {
                        some.add(new Leg(trip.kind, t, trip.calls.get(i).stop(), trip.calls.get(j).stop(),
                                leavesAt(t, d, i), comesAt(t, d, j), d, i, j));
                    }
                }
            }
        }
        return some;
    }

    private long faresAhead(int rides, Leg ride) {
        long marks = 0;
        for (int w = -1; w < walks.size(); w++) {
            if (w >= 0 && walks.get(w).to != ride.from()) {
                continue;
            }
            if (rides == 1) {
                marks |= joins(w, from, asked, false, ride) ? 1 : 0;
                continue;
            }
            for (int n : endingAt.get(w < 0 ? ride.from() : walks.get(w).from)) {
                Leg last = all.get(n);
                if (fares[rides - 1][n] != 0 && joins(w, last.to(), last.comes(), true, ride)) {
                    marks |= fares[rides - 1][n];
                }
            }
        }
        return marks;
    }

    /** A row for each way of another arrival, rides or fare to a stop. */
    private List<int[]> worths(int to) {
        List<int[]> rows = new ArrayList<>();
        for (int w = -1; w < walks.size(); w++) {
            if (w >= 0 && walks.get(w).to != to) {
                continue;
            }
            int stop = w < 0 ? to : walks.get(w).from;
            if (stop == from && end(w, asked) < before) {
                rows.add(new int[] {end(w, asked), 0, 0});
            }
            for (int n : endingAt.get(stop)) {
                int comes = end(w, all.get(n).comes());
                for (int rides = 1; rides <= 3 && comes < before; rides++) {
                    for (int fare = 0; fare <= 27; fare++) {
                        if ((fares[rides][n] >> fare & 1) != 0) {
                            rows.add(new int[] {comes, rides, fare});
                        }
                    }
                }
            }
        }
        return rows;
    }

    private static boolean beatsOrIs(int[] a, int[] b) {
        return a[0] <= b[0] && a[1] <= b[1] && a[2] <= b[2];
    }

    @Override
    int ways(int start, int to, int day, int minute) {
        if (!isStop(start) || !isStop(to) || !isDay(day) || minute < 0 || minute > 1439) return -2;
        mark(start, day, minute);
        List<int[]> rows = worths(to);
        rows.sort(Comparator.comparingInt((int[] r) -> r[0]).thenComparingInt(r -> r[1]).thenComparingInt(r -> r[2]));
        List<int[]> best = new ArrayList<>();
        for (int[] row : rows) {
            if (best.stream().noneMatch(other -> beatsOrIs(other, row))) best.add(row);
        }
        hand = new ArrayList<>();
        for (int[] row : best) {
            hand.add(least(to, row[0], row[1], row[2]));
        }
        return hand.size();
    }

    /** The least way of this worth: its legs from the end backwards, each the least that can be. */
    private Way least(int to, int comes, int rides, int fare) {
        List<int[]> backwards = new ArrayList<>();
        Leg next = null;
        int left = fare;
        for (int r = rides; r >= 0; r--) {
            int[] walkAndRide = leastAhead(r, left, next, to, comes);
            backwards.add(0, walkAndRide);
            if (r > 0) {
                next = all.get(walkAndRide[1]);
                left -= fareOf(next);
            }
        }
        List<Leg> legs = new ArrayList<>();
        int time = asked;
        for (int[] walkAndRide : backwards) {
            if (walkAndRide[1] >= 0) {
                legs.add(all.get(walkAndRide[1]));
                time = all.get(walkAndRide[1]).comes();
            }
            if (walkAndRide[0] >= 0) {
                Walk walk = walks.get(walkAndRide[0]);
                int begins = beginning(walk, time, asked);
                legs.add(new Leg(walk.kind, walkAndRide[0], walk.from, walk.to, begins, begins + walk.minutes, -1, -1, -1));
                time = begins + walk.minutes;
            }
        }
        return new Way(asked, legs, time, rides, fare);
    }

    /** The least walk (-1: none) and the least ride ahead of it (-1: none) ahead of a ride, or of the end. */
    private int[] leastAhead(int rides, int fare, Leg next, int to, int comes) {
        for (int w = -1; w < walks.size(); w++) {
            if (rides == 0) {
                if (fits(w, from, asked, false, next, to, comes)) return new int[] {w, -1};
                continue;
            }
            for (int n = 0; n < all.size(); n++) {
                if (fare >= 0 && (fares[rides][n] >> fare & 1) != 0
                        && fits(w, all.get(n).to(), all.get(n).comes(), true, next, to, comes)) {
                    return new int[] {w, n};
                }
            }
        }
        throw new IllegalStateException("marked, and no way ahead");
    }

    private boolean fits(int walk, int stop, int time, boolean changes, Leg next, int to, int comes) {
        if (next != null) return joins(walk, stop, time, changes, next);
        boolean leads = walk < 0 ? stop == to : walks.get(walk).from == stop && walks.get(walk).to == to;
        return leads && end(walk, time) == comes;
    }

    @Override
    int[] soonest(int start, int day, int minute) {
        mark(start, day, minute);
        int[] times = new int[stops.size()];
        Arrays.fill(times, Integer.MAX_VALUE);
        for (int s = 0; s < times.length; s++) {
            for (int[] row : worths(s)) {
                times[s] = Math.min(times[s], row[0]);
            }
        }
        return times;
    }

    /** By halves alone: listing each minute would take too long, and PlainDesk does it for narrow networks. */
    @Override
    int latest(int start, int to, int day, int by) {
        if (!isStop(start) || !isStop(to) || !isDay(day)) return -2;
        int below = -1;
        int above = 1440;
        while (above - below > 1) {
            int minute = (below + above) / 2;
            int comes = soonest(start, day, minute)[to];
            boolean makesIt = comes != Integer.MAX_VALUE && comes <= by;
            below = makesIt ? minute : below;
            above = makesIt ? above : minute;
        }
        return below;
    }
}
