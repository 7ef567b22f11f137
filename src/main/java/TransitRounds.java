/** Journeys by timetable: early arrivals with few changes. */
public final class TransitRounds {
    public static final int BAD = -1;
    public static final int FULL = -2;
    public static final int NONE = -3;

    private static final int STOPS = 8;
    private static final int STOP_PAIRS = STOPS * STOPS;
    private static final int MAX_TRIPS = 10;
    private static final int MAX_CALLS = 5;
    private static final int CALL_SLOTS = MAX_TRIPS * MAX_CALLS;
    private static final int MAX_TIME = 999;
    private static final int MAX_DELAY = 99;
    private static final int MAX_WALK = 99;
    private static final int MAX_RIDES = 10;

    // Above every time of a journey: the latest is a walk of 99 begun at 999.
    private static final int NEVER = 1000000;

    private int trips = 0;
    private final int[] callCount = new int[MAX_TRIPS];
    // Call k of trip i has slot i * MAX_CALLS + k.
    private final int[] callStop = new int[CALL_SLOTS];
    private final int[] callTime = new int[CALL_SLOTS];
    // The walk from a to b has slot a * STOPS + b; 0 says that there is none.
    private final int[] walkTime = new int[STOP_PAIRS];

    // Two times for each stop, since no walk may follow a walk: the earliest
    // at which one is there without having just walked, and the earliest at all.
    private final int[] unwalked = new int[STOPS];
    private final int[] earliest = new int[STOPS];

    public TransitRounds() {
    }

    public int trip(int stop, int time) {
        if (trips == MAX_TRIPS) {
            return FULL;
        }
        if (!isStop(stop) || !isTime(time)) {
            return BAD;
        }
        callCount[trips] = 0;
        trips++;
        appendCall(stop, time);
        return trips - 1;
    }

    public int call(int stop, int time) {
        if (trips == 0 || !isStop(stop) || !isTime(time)) {
            return BAD;
        }
        int latest = trips - 1;
        if (callCount[latest] == MAX_CALLS) {
            return FULL;
        }
        if (visits(latest, stop) || time < lastTime(latest)) {
            return BAD;
        }
        appendCall(stop, time);
        return callCount[latest];
    }

    public int cancel(int i) {
        if (!isTrip(i)) {
            return BAD;
        }
        for (int to = i; to < trips - 1; to++) {
            copyTrip(to + 1, to);
        }
        trips--;
        return trips;
    }

    public boolean delay(int i, int k, int delay) {
        if (!isTrip(i) || k < 0 || k >= callCount[i]) {
            return false;
        }
        if (delay < 0 || delay > MAX_DELAY) {
            return false;
        }
        // The last call is the latest one, so it alone tells whether all stay in range.
        if (lastTime(i) + delay > MAX_TIME) {
            return false;
        }
        for (int n = k; n < callCount[i]; n++) {
            callTime[i * MAX_CALLS + n] += delay;
        }
        return true;
    }

    public boolean walk(int a, int b, int time) {
        if (!isStop(a) || !isStop(b) || a == b) {
            return false;
        }
        if (time < 0 || time > MAX_WALK) {
            return false;
        }
        walkTime[a * STOPS + b] = time;
        walkTime[b * STOPS + a] = time;
        return true;
    }

    public int arrival(int a, int b, int t, int rides) {
        if (!isStop(a) || !isStop(b) || !isTime(t)) {
            return BAD;
        }
        if (rides < 0 || rides > MAX_RIDES) {
            return BAD;
        }
        search(a, t, rides);
        return earliest[b] == NEVER ? NONE : earliest[b];
    }

    // A journey that ends two rides at one stop, or one at its beginning, can
    // leave out what lies between. So 7 rides do all that any number does, and
    // looking no further than MAX_RIDES misses nothing.
    public int fewest(int a, int b, int t) {
        if (!isStop(a) || !isStop(b) || !isTime(t)) {
            return BAD;
        }
        startAt(a, t);
        for (int rides = 0; rides <= MAX_RIDES; rides++) {
            if (earliest[b] != NEVER) {
                return rides;
            }
            addRide();
        }
        return NONE;
    }

    public int choices(int a, int b, int t) {
        if (!isStop(a) || !isStop(b) || !isTime(t)) {
            return BAD;
        }
        int count = 0;
        int best = NEVER;
        startAt(a, t);
        for (int rides = 0; rides <= MAX_RIDES; rides++) {
            if (earliest[b] < best) {
                best = earliest[b];
                count++;
            }
            addRide();
        }
        return count;
    }

    public int leave(int a, int b, int by) {
        if (!isStop(a) || !isStop(b) || !isTime(by)) {
            return BAD;
        }
        // No journey ends before it begins, so a t above by need not be tried.
        for (int t = by; t >= 0; t--) {
            search(a, t, MAX_RIDES);
            if (earliest[b] <= by) {
                return t;
            }
        }
        return NONE;
    }

    public int within(int a, int t, int by) {
        if (!isStop(a) || !isTime(t) || !isTime(by)) {
            return BAD;
        }
        search(a, t, MAX_RIDES);
        int set = 0;
        for (int stop = 0; stop < STOPS; stop++) {
            if (earliest[stop] <= by) {
                set |= 1 << stop;
            }
        }
        return set;
    }

    private static boolean isStop(int stop) {
        return stop >= 0 && stop < STOPS;
    }

    private static boolean isTime(int time) {
        return time >= 0 && time <= MAX_TIME;
    }

    private boolean isTrip(int i) {
        return i >= 0 && i < trips;
    }

    private boolean visits(int i, int stop) {
        for (int k = 0; k < callCount[i]; k++) {
            if (callStop[i * MAX_CALLS + k] == stop) {
                return true;
            }
        }
        return false;
    }

    private int lastTime(int i) {
        return callTime[i * MAX_CALLS + callCount[i] - 1];
    }

    private void appendCall(int stop, int time) {
        int latest = trips - 1;
        int slot = latest * MAX_CALLS + callCount[latest];
        callStop[slot] = stop;
        callTime[slot] = time;
        callCount[latest]++;
    }

    private void copyTrip(int from, int to) {
        for (int k = 0; k < MAX_CALLS; k++) {
            callStop[to * MAX_CALLS + k] = callStop[from * MAX_CALLS + k];
            callTime[to * MAX_CALLS + k] = callTime[from * MAX_CALLS + k];
        }
        callCount[to] = callCount[from];
    }

    private void search(int a, int t, int rides) {
        startAt(a, t);
        for (int ride = 0; ride < rides; ride++) {
            addRide();
        }
    }

    private void startAt(int a, int t) {
        for (int stop = 0; stop < STOPS; stop++) {
            unwalked[stop] = NEVER;
        }
        unwalked[a] = t;
        spreadWalks();
    }

    // Boarding looks at earliest, which stays as it was until all trips are
    // through: so a round never adds more than one ride to a journey.
    private void addRide() {
        for (int i = 0; i < trips; i++) {
            rideTrip(i);
        }
        spreadWalks();
    }

    private void rideTrip(int i) {
        boolean aboard = false;
        for (int k = 0; k < callCount[i]; k++) {
            int stop = callStop[i * MAX_CALLS + k];
            int time = callTime[i * MAX_CALLS + k];
            if (aboard && time < unwalked[stop]) {
                unwalked[stop] = time;
            }
            if (earliest[stop] <= time) {
                aboard = true;
            }
        }
    }

    private void spreadWalks() {
        for (int stop = 0; stop < STOPS; stop++) {
            earliest[stop] = unwalked[stop];
            for (int from = 0; from < STOPS; from++) {
                int time = walkTime[from * STOPS + stop];
                if (time > 0 && unwalked[from] + time < earliest[stop]) {
                    earliest[stop] = unwalked[from] + time;
                }
            }
        }
    }
}
