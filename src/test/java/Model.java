import java.util.ArrayList;
import java.util.HashMap;
import java.util.Iterator;
import java.util.List;
import java.util.Map;

/** The document once more, written with lists and maps and without any thought of speed: RandomTest holds the class against it. */
final class Model {
    private static final class Ride {
        int seats, round, part, spare, kind, people, empty, rounds;
        boolean stopped;
        final List<Group> standing = new ArrayList<>();
        final List<Group> back = new ArrayList<>();
        final Map<Integer, Integer> given = new HashMap<>();

        int period() { return kind == 2 ? 3 * round : round; }
        int length() { return kind == 2 ? 15 * round : 5 * round; }
        int room() { return Math.max(0, 5 * part - spare); }
        void give(int window, int people) { given.merge(window, people, Integer::sum); }
        boolean fits(int window, Group g) { return given.getOrDefault(window, 0) + g.many <= room(); }
    }

    private static final class Time {
        final Ride ride;
        int window;

        Time(Ride ride, int window) {
            this.ride = ride;
            this.window = window;
        }
        int first() { return window * ride.length(); }
        int last() { return (window + 1) * ride.length() - 1; }
    }

    private static final class Group {
        int many, anys, rounds, missed, moved, since;
        boolean gone;
        Ride on;
        final List<Time> times = new ArrayList<>();
    }

    private final List<Ride> rides = new ArrayList<>();
    private final List<Group> groups = new ArrayList<>();
    private final Map<Integer, Integer> walks = new HashMap<>();
    private final Map<Integer, Integer> refusals = new HashMap<>();
    private int tick;
    private boolean rain;

    int answer(String name, int[] a) {
        int got = plain(name, a);
        if (got < 0 && got >= -6) {
            refusals.merge(got, 1, Integer::sum);
        }
        return got;
    }

    private int plain(String name, int[] a) {
        switch (name) {
            case "ride": return ride(a);
            case "group": return group(a[0]);
            case "walk": return walk(a[0], a[1], a[2]);
            case "part": return part(a[0], a[1], a[2]);
            case "take": return take(g(a[0]), r(a[1]), true);
            case "free": return take(g(a[0]), r(a[1]), false);
            case "give": return give(g(a[0]), a[1]);
            case "come": return come(g(a[0]), r(a[1]));
            case "stand": return stand(g(a[0]), r(a[1]));
            case "leave": return leave(g(a[0]));
            case "go": return go(g(a[0]));
            case "stop": return stop(r(a[0]), a[1] == 1);
            case "rain": return rain(a[0] == 1);
            case "ticks": return ticks(a[0]);
            case "wait": return waitOf(g(a[0]));
            case "groupOf": return groupOf(g(a[0]), a[1]);
            case "time": return time(g(a[0]), a[1], a[2]);
            case "rideOf": return rideOf(r(a[0]), a[1]);
            case "window": return window(r(a[0]), a[1], a[2]);
            case "row": return row(r(a[0]), a[1] == 1, a[2]);
            case "count": return count(a[0]);
            default: throw new IllegalStateException(name);
        }
    }

    private Ride r(int i) { return i < 0 || i >= rides.size() ? null : rides.get(i); }
    private Group g(int i) { return i < 0 || i >= groups.size() ? null : groups.get(i); }
    private boolean runs(Ride r) { return !r.stopped && (r.kind != 3 || !rain); }

    private Ride rowRide(Group g, boolean back) {
        for (Ride r : rides) {
            if ((back ? r.back : r.standing).contains(g)) {
                return r;
            }
        }
        return null;
    }

    private int doing(Group g) {
        if (g.gone) return 4;
        if (g.on != null) return 3;
        if (rowRide(g, true) != null) return 2;
        return rowRide(g, false) != null ? 1 : 0;
    }

    private int ride(int[] a) {
        int[] least = {1, 1, 0, 0, 0};
        int[] most = {40, 20, a[0], 99, 3};
        for (int i = 0; i < 5; i++) if (a[i] < least[i]) return -4;
        for (int i = 0; i < 5; i++) if (a[i] > most[i]) return -6;
        if (rides.size() == 8) return -6;
        Ride r = new Ride();
        r.seats = a[0]; r.round = a[1]; r.part = a[2]; r.spare = a[3]; r.kind = a[4];
        rides.add(r);
        return rides.size() - 1;
    }

    private int group(int many) {
        if (many < 1) return -4;
        if (many > 8 || groups.size() == 60) return -6;
        Group g = new Group();
        g.many = many;
        groups.add(g);
        return groups.size() - 1;
    }

    private static int pair(int a, int b) { return Math.min(a, b) * 100 + Math.max(a, b); }

    private int walk(int a, int b, int ticks) {
        if (r(a) == null || r(b) == null || a == b) return -1;
        if (ticks < 0) return -4;
        if (ticks > 50) return -6;
        Integer before = walks.put(pair(a, b), ticks);
        return before == null ? 0 : before;
    }

    private int part(int ride, int part, int spare) {
        Ride r = r(ride);
        if (r == null) return -1;
        if (part < 0 || spare < 0) return -4;
        if (part > r.seats || spare > 99) return -6;
        r.part = part;
        r.spare = spare;
        return 1;
    }

    private boolean overlap(Time a, Time b) {
        int walk = walks.getOrDefault(pair(rides.indexOf(a.ride), rides.indexOf(b.ride)), 0);
        boolean aFarAhead = a.last() + walk < b.first();
        boolean bFarAhead = b.last() + walk < a.first();
        return !aFarAhead && !bFarAhead;
    }

    private int take(Group g, Ride r, boolean really) {
        if (g == null || r == null) return -1;
        if (g.gone) return -2;
        if (g.times.size() == 2) return -6;
        for (int k = 1; k <= 40; k++) {
            Time t = new Time(r, tick / r.length() + k);
            if (r.fits(t.window, g) && g.times.stream().noneMatch(o -> overlap(o, t))) {
                if (really) {
                    r.give(t.window, g.many);
                    g.times.add(t);
                }
                return t.window;
            }
        }
        return -3;
    }

    private int give(Group g, int i) {
        if (g == null || i < 0 || i >= g.times.size()) return -1;
        Time t = g.times.remove(i);
        t.ride.give(t.window, -g.many);
        return t.window;
    }

    private int come(Group g, Ride r) {
        if (g == null || r == null) return -1;
        if (doing(g) != 0) return -2;
        Time use = null;
        for (Time t : g.times) {
            if (use == null && t.ride == r && t.first() <= tick && tick <= t.last()) use = t;
        }
        if (use == null && g.anys == 0) return -3;
        if (use != null) g.times.remove(use); else g.anys--;
        r.back.add(g);
        return r.back.size() - 1;
    }

    private int stand(Group g, Ride r) {
        if (g == null || r == null) return -1;
        if (doing(g) != 0) return -2;
        if (g.many > r.seats - r.part) return -6;
        r.standing.add(g);
        return r.standing.size() - 1;
    }

    private int leave(Group g) {
        if (g == null) return -1;
        for (Ride r : rides) {
            if (r.standing.remove(g) || r.back.remove(g)) return rides.indexOf(r);
        }
        return -2;
    }

    private int go(Group g) {
        if (g == null) return -1;
        if (doing(g) != 0) return -2;
        int many = g.times.size();
        while (!g.times.isEmpty()) give(g, 0);
        g.gone = true;
        return many;
    }

    private int stop(Ride r, boolean on) {
        if (r == null || r.stopped == on) return 0;
        r.stopped = on;
        return 1;
    }

    private int rain(boolean on) {
        boolean changed = rain != on;
        rain = on;
        return changed ? 1 : 0;
    }

    private int ticks(int n) {
        if (n < 1) return -4;
        if ((long) tick + n > 5000) return -6;
        int people = 0;
        for (int i = 0; i < n; i++) {
            tick++;
            for (Group g : groups) {
                if (g.on != null && tick - g.since >= g.on.round) g.on = null;
            }
            for (Ride r : rides) {
                if (tick % r.period() == 0 && runs(r)) people += fill(r);
            }
            for (Ride r : rides) {
                if (tick % r.length() == 0) end(r, tick / r.length() - 1);
            }
        }
        return people;
    }

    private int fill(Ride r) {
        int used = aboard(r, r.back, r.part, false);
        used += aboard(r, r.standing, r.seats - used, false);
        used += aboard(r, r.back, r.seats - used, false);
        if (r.kind == 1) used += aboard(r, r.standing, r.seats - used, true);
        r.people += used;
        r.empty += r.seats - used;
        r.rounds++;
        return used;
    }

    private int aboard(Ride r, List<Group> row, int seats, boolean ones) {
        int used = 0;
        Iterator<Group> all = row.iterator();
        while (all.hasNext()) {
            Group g = all.next();
            if (ones && g.many != 1) continue;
            if (used + g.many > seats) break;
            used += g.many;
            g.on = r;
            g.since = tick;
            g.rounds++;
            all.remove();
        }
        return used;
    }

    private void end(Ride r, int window) {
        for (Group g : groups) {
            for (Time t : new ArrayList<>(g.times)) {
                if (t.ride != r || t.window != window) continue;
                if (runs(r)) {
                    g.missed++;
                    g.times.remove(t);
                    continue;
                }
                r.give(window, -g.many);
                int to = window + 1;
                while (to <= window + 40 && !r.fits(to, g)) to++;
                if (to <= window + 40) {
                    t.window = to;
                    r.give(to, g.many);
                    g.moved++;
                } else {
                    g.times.remove(t);
                    g.anys++;
                }
            }
        }
    }

    private int waitOf(Group g) {
        if (g == null) return -1;
        if (doing(g) != 1) return -2;
        Ride r = rowRide(g, false);
        List<Group> row = new ArrayList<>(r.standing);
        for (int round = 1; ; round++) {
            int left = r.seats - r.part;
            boolean any = false;
            while (!row.isEmpty() && row.get(0).many <= left) {
                Group next = row.remove(0);
                left -= next.many;
                any = true;
                if (next == g) return round;
            }
            if (!any) return -3;
        }
    }

    private int groupOf(Group g, int what) {
        if (g == null) return -1;
        int doing = doing(g);
        Ride at = doing == 3 ? g.on : doing == 1 || doing == 2 ? rowRide(g, doing == 2) : null;
        switch (what) {
            case 0: return g.many;
            case 1: return doing;
            case 2: return at == null ? -9 : rides.indexOf(at);
            case 3: return doing == 1 ? at.standing.indexOf(g) : doing == 2 ? at.back.indexOf(g) : -9;
            case 4: return g.times.size();
            case 5: return g.anys;
            case 6: return g.rounds;
            case 7: return g.missed;
            case 8: return g.moved;
            default: return -9;
        }
    }

    private int time(Group g, int i, int what) {
        if (g == null || i < 0 || i >= g.times.size()) return -1;
        if (what == 0) return rides.indexOf(g.times.get(i).ride);
        return what == 1 ? g.times.get(i).window : -9;
    }

    private int rideOf(Ride r, int what) {
        if (r == null) return -1;
        int on = groups.stream().filter(g -> g.on == r).mapToInt(g -> g.many).sum();
        int[] all = {r.seats, r.round, r.part, r.spare, r.kind, runs(r) ? 1 : 0, r.standing.size(), r.back.size(),
            on, r.people, r.empty, tick / r.length(), r.rounds};
        return what >= 0 && what < all.length ? all[what] : -9;
    }

    private int window(Ride r, int window, int what) {
        if (r == null || window < 0) return -1;
        if (what == 0) return r.given.getOrDefault(window, 0);
        return what == 1 ? r.room() : -9;
    }

    private int row(Ride r, boolean back, int i) {
        if (r == null) return -1;
        List<Group> row = back ? r.back : r.standing;
        return i < 0 || i >= row.size() ? -9 : groups.indexOf(row.get(i));
    }

    private int count(int what) {
        if (what >= 11 && what <= 16) return refusals.getOrDefault(10 - what, 0);
        int[] people = new int[5];
        for (Group g : groups) people[doing(g)] += g.many;
        switch (what) {
            case 0: return tick;
            case 1: return rides.size();
            case 2: return groups.size();
            case 3: return people[0] + people[1] + people[2] + people[3] + people[4];
            case 4: return people[3];
            case 5: return people[1] + people[2];
            case 6: return people[4];
            default: return -9;
        }
    }
}
