public final class ParkRows {
    private static final int MOST_RIDES = 8;
    private static final int MOST_GROUPS = 60;
    private static final int MOST_TIMES = 2;
    private static final int MOST_SEATS = 40;
    private static final int MOST_ROUND = 20;
    private static final int MOST_SPARE = 99;
    private static final int MOST_PEOPLE = 8;
    private static final int MOST_WALK = 50;
    private static final int LAST_TICK = 5000;
    private static final int WINDOWS_BEHIND = 40;
    private static final int ROUNDS_IN_WINDOW = 5;
    private static final int ROUNDS_OF_SHOW = 3;

    private static final int SINGLE = 1;
    private static final int SHOW = 2;
    private static final int WET = 3;

    private static final int WALKING = 0;
    private static final int STANDING = 1;
    private static final int BACK = 2;
    private static final int ON = 3;
    private static final int GONE = 4;

    private static final int NOBODY = -1;
    private static final int STATE = -2;
    private static final int NONE = -3;
    private static final int BELOW = -4;
    private static final int ROOM = -6;
    private static final int ABSENT = -9;

    private static final int FIRST_REFUSAL_COUNT = 11;
    private static final int LAST_REFUSAL_COUNT = 16;

    private final Ride[] rides;
    private final Group[] groups;
    private final int[] walks;
    private final int[] refusals;
    private int rideTotal;
    private int groupTotal;
    private int tick;
    private boolean raining;

    public ParkRows() {
        rides = new Ride[MOST_RIDES];
        groups = new Group[MOST_GROUPS];
        walks = new int[MOST_RIDES * MOST_RIDES];
        refusals = new int[LAST_REFUSAL_COUNT - FIRST_REFUSAL_COUNT + 1];
    }

    public int ride(int seats, int round, int part, int spare, int kind) {
        if (seats < 1 || round < 1 || part < 0 || spare < 0 || kind < 0) {
            return refused(BELOW);
        }
        if (seats > MOST_SEATS || round > MOST_ROUND || part > seats || spare > MOST_SPARE || kind > WET) {
            return refused(ROOM);
        }
        if (rideTotal < 0 || rideTotal >= rides.length) {
            return refused(ROOM);
        }
        int number = rideTotal;
        Ride made = new Ride(number, seats, round, kind);
        made.part = part;
        made.spare = spare;
        rides[number] = made;
        rideTotal++;
        return number;
    }

    public int group(int many) {
        if (many < 1) {
            return refused(BELOW);
        }
        if (many > MOST_PEOPLE || groupTotal < 0 || groupTotal >= groups.length) {
            return refused(ROOM);
        }
        int number = groupTotal;
        groups[number] = new Group(number, many);
        groupTotal++;
        return number;
    }

    public int walk(int a, int b, int ticks) {
        if (rideAt(a) == null || rideAt(b) == null || a == b) {
            return refused(NOBODY);
        }
        if (ticks < 0) {
            return refused(BELOW);
        }
        if (ticks > MOST_WALK) {
            return refused(ROOM);
        }
        int before = walkBetween(a, b);
        setWalk(a, b, ticks);
        setWalk(b, a, ticks);
        return before;
    }

    public int part(int ride, int part, int spare) {
        Ride at = rideAt(ride);
        if (at == null) {
            return refused(NOBODY);
        }
        if (part < 0 || spare < 0) {
            return refused(BELOW);
        }
        if (part > at.seats || spare > MOST_SPARE) {
            return refused(ROOM);
        }
        at.part = part;
        at.spare = spare;
        return 1;
    }

    public int take(int group, int ride) {
        Group who = groupAt(group);
        Ride at = rideAt(ride);
        int window = windowToTake(who, at);
        if (window < 0 || who == null || at == null) {
            return refused(window);
        }
        at.addGiven(window, who.many);
        who.addTime(at.number, window);
        return window;
    }

    public int give(int group, int i) {
        Group who = groupAt(group);
        if (who == null || !who.hasTime(i)) {
            return refused(NOBODY);
        }
        return giveBack(who, i);
    }

    public int come(int group, int ride) {
        Group who = groupAt(group);
        Ride at = rideAt(ride);
        if (who == null || at == null) {
            return refused(NOBODY);
        }
        if (who.doing != WALKING) {
            return refused(STATE);
        }
        int i = who.placeOfTime(at.number, at.windowAt(tick));
        if (who.hasTime(i)) {
            who.dropTime(i);
        } else if (who.anys > 0) {
            who.anys--;
        } else {
            return refused(NONE);
        }
        who.turnTo(BACK, at.number);
        return at.back.append(who.number);
    }

    public int stand(int group, int ride) {
        Group who = groupAt(group);
        Ride at = rideAt(ride);
        if (who == null || at == null) {
            return refused(NOBODY);
        }
        if (who.doing != WALKING) {
            return refused(STATE);
        }
        if (who.many > at.seats - at.part) {
            return refused(ROOM);
        }
        who.turnTo(STANDING, at.number);
        return at.standing.append(who.number);
    }

    public int leave(int group) {
        Group who = groupAt(group);
        if (who == null) {
            return refused(NOBODY);
        }
        Row line = rowOf(who);
        if (line == null) {
            return refused(STATE);
        }
        int left = who.ride;
        line.removeAt(line.placeOf(who.number));
        who.turnTo(WALKING, ABSENT);
        return left;
    }

    public int go(int group) {
        Group who = groupAt(group);
        if (who == null) {
            return refused(NOBODY);
        }
        if (who.doing != WALKING) {
            return refused(STATE);
        }
        int given = who.times;
        for (int i = given - 1; i >= 0; i--) {
            giveBack(who, i);
        }
        who.turnTo(GONE, ABSENT);
        return given;
    }

    public boolean stop(int ride, boolean on) {
        Ride at = rideAt(ride);
        if (at == null || at.stopped == on) {
            return false;
        }
        at.stopped = on;
        return true;
    }

    public boolean rain(boolean on) {
        if (raining == on) {
            return false;
        }
        raining = on;
        return true;
    }

    public int ticks(int n) {
        if (n < 1) {
            return refused(BELOW);
        }
        if (n > LAST_TICK - tick) {
            return refused(ROOM);
        }
        int people = 0;
        for (int i = 0; i < n; i++) {
            people += passTick();
        }
        return people;
    }

    public int wait(int group) {
        Group who = groupAt(group);
        if (who == null) {
            return refused(NOBODY);
        }
        Ride at = rideAt(who.ride);
        if (who.doing != STANDING || at == null) {
            return refused(STATE);
        }
        int rounds = roundsTillOn(at, at.standing.placeOf(who.number));
        return rounds < 0 ? refused(rounds) : rounds;
    }

    public int free(int group, int ride) {
        int window = windowToTake(groupAt(group), rideAt(ride));
        return window < 0 ? refused(window) : window;
    }

    public int groupOf(int group, int what) {
        Group who = groupAt(group);
        if (who == null) {
            return refused(NOBODY);
        }
        switch (what) {
            case 0: return who.many;
            case 1: return who.doing;
            case 2: return who.ride;
            case 3: return placeInRow(who);
            case 4: return who.times;
            case 5: return who.anys;
            case 6: return who.rounds;
            case 7: return who.missed;
            case 8: return who.moved;
            default: return ABSENT;
        }
    }

    public int time(int group, int i, int what) {
        Group who = groupAt(group);
        if (who == null || !who.hasTime(i)) {
            return refused(NOBODY);
        }
        switch (what) {
            case 0: return who.rideOfTime(i);
            case 1: return who.windowOfTime(i);
            default: return ABSENT;
        }
    }

    public int rideOf(int ride, int what) {
        Ride at = rideAt(ride);
        if (at == null) {
            return refused(NOBODY);
        }
        switch (what) {
            case 0: return at.seats;
            case 1: return at.round;
            case 2: return at.part;
            case 3: return at.spare;
            case 4: return at.kind;
            case 5: return at.runs(raining) ? 1 : 0;
            case 6: return at.standing.size;
            case 7: return at.back.size;
            case 8: return at.peopleOn;
            case 9: return at.peopleInAll;
            case 10: return at.emptySeats;
            case 11: return at.windowAt(tick);
            case 12: return at.rounds;
            default: return ABSENT;
        }
    }

    public int window(int ride, int window, int what) {
        Ride at = rideAt(ride);
        if (at == null || window < 0) {
            return refused(NOBODY);
        }
        switch (what) {
            case 0: return at.givenOf(window);
            case 1: return at.roomOfWindow();
            default: return ABSENT;
        }
    }

    public int row(int ride, boolean back, int i) {
        Ride at = rideAt(ride);
        if (at == null) {
            return refused(NOBODY);
        }
        Row line = back ? at.back : at.standing;
        return line.at(i);
    }

    public int count(int what) {
        if (what >= FIRST_REFUSAL_COUNT && what <= LAST_REFUSAL_COUNT) {
            return refusalsAt(what - FIRST_REFUSAL_COUNT);
        }
        switch (what) {
            case 0: return tick;
            case 1: return rideTotal;
            case 2: return groupTotal;
            case 3: return peopleDoing(WALKING, GONE);
            case 4: return peopleDoing(ON, ON);
            case 5: return peopleDoing(STANDING, BACK);
            case 6: return peopleDoing(GONE, GONE);
            default: return ABSENT;
        }
    }

    private int refused(int refusal) {
        int i = -1 - refusal;
        if (i >= 0 && i < refusals.length) {
            refusals[i]++;
        }
        return refusal;
    }

    private int refusalsAt(int i) {
        return i >= 0 && i < refusals.length ? refusals[i] : ABSENT;
    }

    private Ride rideAt(int number) {
        return number >= 0 && number < rideTotal && number < rides.length ? rides[number] : null;
    }

    private Group groupAt(int number) {
        return number >= 0 && number < groupTotal && number < groups.length ? groups[number] : null;
    }

    private int walkBetween(int a, int b) {
        int i = a * MOST_RIDES + b;
        return i >= 0 && i < walks.length ? walks[i] : 0;
    }

    private void setWalk(int a, int b, int ticks) {
        int i = a * MOST_RIDES + b;
        if (i >= 0 && i < walks.length) {
            walks[i] = ticks;
        }
    }

    private Row rowOf(Group who) {
        Ride at = rideAt(who.ride);
        if (at == null) {
            return null;
        }
        if (who.doing == STANDING) {
            return at.standing;
        }
        return who.doing == BACK ? at.back : null;
    }

    private int placeInRow(Group who) {
        Row line = rowOf(who);
        return line == null ? ABSENT : line.placeOf(who.number);
    }

    private int peopleDoing(int least, int most) {
        int people = 0;
        for (int i = 0; i < groupTotal; i++) {
            Group who = groupAt(i);
            if (who != null && who.doing >= least && who.doing <= most) {
                people += who.many;
            }
        }
        return people;
    }

    /** The window that a take would give, or the refusal. */
    private int windowToTake(Group who, Ride at) {
        if (who == null || at == null) {
            return NOBODY;
        }
        if (who.doing == GONE) {
            return STATE;
        }
        if (who.times >= MOST_TIMES) {
            return ROOM;
        }
        int now = at.windowAt(tick);
        for (int window = now + 1; window <= now + WINDOWS_BEHIND; window++) {
            if (at.hasRoom(window, who.many) && !overlapsAny(who, at, window)) {
                return window;
            }
        }
        return NONE;
    }

    private boolean overlapsAny(Group who, Ride at, int window) {
        for (int i = 0; i < who.times; i++) {
            Ride other = rideAt(who.rideOfTime(i));
            if (other != null && overlaps(at, window, other, who.windowOfTime(i))) {
                return true;
            }
        }
        return false;
    }

    private boolean overlaps(Ride one, int window, Ride other, int otherWindow) {
        int walk = walkBetween(one.number, other.number);
        return one.lastTickOf(window) + walk >= other.firstTickOf(otherWindow)
            && other.lastTickOf(otherWindow) + walk >= one.firstTickOf(window);
    }

    private int giveBack(Group who, int i) {
        Ride at = rideAt(who.rideOfTime(i));
        int window = who.windowOfTime(i);
        if (at != null) {
            at.addGiven(window, -who.many);
        }
        who.dropTime(i);
        return window;
    }

    private int roundsTillOn(Ride at, int place) {
        int seats = at.seats - at.part;
        int left = seats;
        int rounds = 1;
        for (int i = 0; i <= place; i++) {
            Group next = groupAt(at.standing.at(i));
            // One that never fits holds up all who stand behind it.
            if (next == null || next.many > seats) {
                return NONE;
            }
            if (next.many > left) {
                rounds++;
                left = seats;
            }
            left -= next.many;
        }
        return rounds;
    }

    private int passTick() {
        tick++;
        int people = 0;
        for (int i = 0; i < rideTotal; i++) {
            Ride at = rideAt(i);
            if (at != null) {
                endRound(at);
                people += at.beginsRound(tick, raining) ? beginRound(at) : 0;
            }
        }
        for (int i = 0; i < rideTotal; i++) {
            Ride at = rideAt(i);
            if (at != null && at.beginsWindow(tick)) {
                endWindow(at, at.windowAt(tick) - 1);
            }
        }
        return people;
    }

    private void endRound(Ride at) {
        if (at.peopleOn == 0) {
            return;
        }
        for (int i = 0; i < groupTotal; i++) {
            Group who = groupAt(i);
            if (who != null && who.doing == ON && who.ride == at.number && who.since <= tick - at.round) {
                at.peopleOn -= who.many;
                who.turnTo(WALKING, ABSENT);
            }
        }
    }

    private int beginRound(Ride at) {
        int left = at.seats;
        left -= boardInOrder(at, at.back, at.part);
        left -= boardInOrder(at, at.standing, left);
        left -= boardInOrder(at, at.back, left);
        if (at.kind == SINGLE) {
            left -= boardSingles(at, left);
        }
        at.rounds++;
        at.emptySeats += left;
        return at.seats - left;
    }

    private int boardInOrder(Ride at, Row line, int seats) {
        int taken = 0;
        for (int i = 0; i < MOST_GROUPS; i++) {
            Group next = groupAt(line.at(0));
            if (next == null || next.many > seats - taken) {
                break;
            }
            taken += board(at, line, 0, next);
        }
        return taken;
    }

    private int boardSingles(Ride at, int seats) {
        int taken = 0;
        int place = 0;
        for (int i = 0; i < MOST_GROUPS && taken < seats; i++) {
            Group next = groupAt(at.standing.at(place));
            if (next == null) {
                break;
            }
            if (next.many == 1) {
                taken += board(at, at.standing, place, next);
            } else {
                place++;
            }
        }
        return taken;
    }

    private int board(Ride at, Row line, int place, Group who) {
        line.removeAt(place);
        who.turnTo(ON, at.number);
        who.since = tick;
        who.rounds++;
        at.peopleOn += who.many;
        at.peopleInAll += who.many;
        return who.many;
    }

    private void endWindow(Ride at, int window) {
        boolean runs = at.runs(raining);
        for (int i = 0; i < groupTotal; i++) {
            Group who = groupAt(i);
            if (who != null) {
                endTimes(who, at, window, runs);
            }
        }
    }

    private void endTimes(Group who, Ride at, int window, boolean runs) {
        int i = 0;
        for (int seen = 0; seen < MOST_TIMES && i < who.times; seen++) {
            if (who.rideOfTime(i) != at.number || who.windowOfTime(i) != window) {
                i++;
            } else if (runs) {
                who.dropTime(i);
                who.missed++;
            } else if (moveTime(who, i, at, window)) {
                i++;
            }
        }
    }

    /** Whether the time is kept, in a later window; if not, it has become an any. */
    private boolean moveTime(Group who, int i, Ride at, int window) {
        at.addGiven(window, -who.many);
        for (int later = window + 1; later <= window + WINDOWS_BEHIND; later++) {
            if (at.hasRoom(later, who.many)) {
                at.addGiven(later, who.many);
                who.moveTimeTo(i, later);
                who.moved++;
                return true;
            }
        }
        who.dropTime(i);
        who.anys++;
        return false;
    }

    /** Numbers of groups, in the order in which they came. */
    private static final class Row {
        private final int[] numbers;
        private int size;

        private Row() {
            numbers = new int[MOST_GROUPS];
        }

        private int at(int place) {
            return place >= 0 && place < size && place < numbers.length ? numbers[place] : ABSENT;
        }

        private int placeOf(int number) {
            for (int i = 0; i < size; i++) {
                if (at(i) == number) {
                    return i;
                }
            }
            return ABSENT;
        }

        private int append(int number) {
            if (size < 0 || size >= numbers.length) {
                return ABSENT;
            }
            numbers[size] = number;
            size++;
            return size - 1;
        }

        private void removeAt(int place) {
            if (place < 0 || place >= size) {
                return;
            }
            for (int i = place + 1; i < size && i < numbers.length; i++) {
                numbers[i - 1] = numbers[i];
            }
            size--;
        }
    }

    private static final class Ride {
        private final int number;
        private final int seats;
        private final int round;
        private final int kind;
        private final int period;
        private final int windowLength;
        private final Row standing;
        private final Row back;
        private final int[] given;
        private int part;
        private int spare;
        private boolean stopped;
        private int peopleOn;
        private int peopleInAll;
        private int emptySeats;
        private int rounds;

        private Ride(int number, int seats, int round, int kind) {
            this.number = number;
            this.seats = seats;
            this.round = round;
            this.kind = kind;
            // A round of 0 would divide by it: no caller hands one in, and this keeps it so.
            period = Math.max(1, kind == SHOW ? ROUNDS_OF_SHOW * round : round);
            windowLength = ROUNDS_IN_WINDOW * period;
            standing = new Row();
            back = new Row();
            given = new int[windowLength > 0 ? LAST_TICK / windowLength + WINDOWS_BEHIND + 1 : 0];
        }

        private boolean runs(boolean raining) {
            return !stopped && !(kind == WET && raining);
        }

        private boolean beginsRound(int tick, boolean raining) {
            return period > 0 && tick % period == 0 && runs(raining);
        }

        private boolean beginsWindow(int tick) {
            return windowLength > 0 && tick % windowLength == 0;
        }

        private int windowAt(int tick) {
            return windowLength > 0 ? tick / windowLength : 0;
        }

        private int firstTickOf(int window) {
            return window * windowLength;
        }

        private int lastTickOf(int window) {
            return firstTickOf(window) + windowLength - 1;
        }

        private int roomOfWindow() {
            return Math.max(0, ROUNDS_IN_WINDOW * part - spare);
        }

        private int givenOf(int window) {
            return window >= 0 && window < given.length ? given[window] : 0;
        }

        private boolean hasRoom(int window, int people) {
            return givenOf(window) + people <= roomOfWindow();
        }

        private void addGiven(int window, int people) {
            if (window >= 0 && window < given.length) {
                given[window] += people;
            }
        }
    }

    private static final class Group {
        private final int number;
        private final int many;
        private final int[] timeRides;
        private final int[] timeWindows;
        private int times;
        private int doing;
        private int ride;
        private int since;
        private int anys;
        private int rounds;
        private int missed;
        private int moved;

        private Group(int number, int many) {
            this.number = number;
            this.many = many;
            timeRides = new int[MOST_TIMES];
            timeWindows = new int[MOST_TIMES];
            doing = WALKING;
            ride = ABSENT;
        }

        private void turnTo(int doing, int ride) {
            this.doing = doing;
            this.ride = ride;
        }

        private boolean hasTime(int i) {
            return i >= 0 && i < times && i < MOST_TIMES;
        }

        private int rideOfTime(int i) {
            return hasTime(i) && i < timeRides.length ? timeRides[i] : ABSENT;
        }

        private int windowOfTime(int i) {
            return hasTime(i) && i < timeWindows.length ? timeWindows[i] : ABSENT;
        }

        private int placeOfTime(int ride, int window) {
            for (int i = 0; i < times; i++) {
                if (rideOfTime(i) == ride && windowOfTime(i) == window) {
                    return i;
                }
            }
            return ABSENT;
        }

        private void addTime(int ride, int window) {
            if (times >= 0 && times < timeRides.length && times < timeWindows.length) {
                timeRides[times] = ride;
                timeWindows[times] = window;
                times++;
            }
        }

        private void moveTimeTo(int i, int window) {
            if (hasTime(i) && i < timeWindows.length) {
                timeWindows[i] = window;
            }
        }

        private void dropTime(int i) {
            if (!hasTime(i)) {
                return;
            }
            for (int k = i + 1; k < times && k < timeRides.length && k < timeWindows.length; k++) {
                timeRides[k - 1] = timeRides[k];
                timeWindows[k - 1] = timeWindows[k];
            }
            times--;
        }
    }
}
