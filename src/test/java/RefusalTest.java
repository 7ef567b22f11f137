import java.util.ArrayList;
import java.util.List;
import java.util.function.Supplier;
import java.util.function.ToIntFunction;

/**
 * "A call that is refused, because a number is not as said there, something is
 * not there, or a limit is reached, changes nothing": every way to be refused, in
 * states from empty to full, each followed by a look at all trips and walks. The
 * same look comes after questions that are answered.
 */
public final class RefusalTest {
    private static final int BAD = TransitRounds.BAD;
    private static final int FULL = TransitRounds.FULL;
    private static final int NONE = TransitRounds.NONE;
    private static final int LEAST = Integer.MIN_VALUE;
    private static final int GREATEST = Integer.MAX_VALUE;
    private static final int[] NO_STOPS = {-1, 8, 16, 256, LEAST, GREATEST};
    private static final int[] NO_TIMES = {-1, 1000, 1024, 65536, LEAST, GREATEST};
    private static final int[] NO_SHORT_TIMES = {-1, 100, 128, 256, LEAST, GREATEST};
    private static final int[] NO_RIDES = {-1, 11, LEAST, GREATEST};
    private static final int[] NO_TRIPS = {-1, 10, 858993460, LEAST, GREATEST};
    private static final int[] NO_CALLS = {-1, 5, 6, LEAST, GREATEST};

    private static int wrong = 0;

    private record Call(String text, ToIntFunction<TransitRounds> on, int due) {
    }

    public static void main(String[] args) {
        theLookTellsStatesApart();
        changesNothing("empty", TransitRounds::new, refusedEverywhere(BAD), refusedWhenEmpty(), questions());
        changesNothing("one call", RefusalTest::oneCall, refusedEverywhere(BAD), refusedAtOneCall(), questions());
        changesNothing("some trips", RefusalTest::someTrips, refusedEverywhere(BAD), refusedAtSomeTrips(), questions());
        changesNothing("full", RefusalTest::full, refusedEverywhere(FULL), refusedWhenFull(), questions());
        System.out.println(wrong == 0 ? "no refused call changes anything" : wrong + " faults");
        if (wrong != 0) {
            System.exit(1);
        }
    }

    @SafeVarargs
    private static void changesNothing(String name, Supplier<TransitRounds> state, List<Call>... lists) {
        String before = look(state);
        for (List<Call> list : lists) {
            for (Call call : list) {
                if (!look(() -> after(state, name, call)).equals(before)) {
                    fault(name + ": " + call.text + " changed something");
                }
            }
        }
    }

    private static TransitRounds after(Supplier<TransitRounds> state, String name, Call call) {
        TransitRounds x = state.get();
        int got = call.on.applyAsInt(x);
        if (got != call.due) {
            fault(name + ": " + call.text + " answered " + got + ", due is " + call.due);
        }
        return x;
    }

    // ---- States

    private static TransitRounds oneCall() {
        TransitRounds x = new TransitRounds();
        x.trip(2, 500);
        return x;
    }

    /** Trips of two, five, one and three calls; the last is at stops 1, 2 and 3, and ends at 950. */
    private static TransitRounds someTrips() {
        TransitRounds x = new TransitRounds();
        addTrip(x, 0, 2, 100);
        addTrip(x, 3, 5, 200);
        addTrip(x, 5, 1, 300);
        addTrip(x, 1, 3, 930);
        x.walk(0, 1, 1);
        x.walk(4, 7, 99);
        x.walk(6, 2, 50);
        return x;
    }

    /** Ten trips of five calls and all walks; the last trip is at stops 1 to 5, and ends at 999. */
    private static TransitRounds full() {
        TransitRounds x = new TransitRounds();
        for (int i = 0; i < 10; i++) {
            addTrip(x, i % 8, 5, i * 100 + 59);
        }
        for (int a = 0; a < 8; a++) {
            for (int b = a + 1; b < 8; b++) {
                x.walk(a, b, 1 + 8 * a + b);
            }
        }
        return x;
    }

    private static void addTrip(TransitRounds x, int stop, int calls, int time) {
        x.trip(stop, time);
        for (int k = 1; k < calls; k++) {
            x.call((stop + k) % 8, time + 10 * k);
        }
    }

    // ---- Calls

    /** Refused in every state; a trip with what is said first. */
    private static List<Call> refusedEverywhere(int noTrip) {
        List<Call> all = new ArrayList<>();
        for (int s : NO_STOPS) {
            all.add(new Call("trip(" + s + ", 5)", x -> x.trip(s, 5), noTrip));
            all.add(new Call("call(" + s + ", 999)", x -> x.call(s, 999), BAD));
            all.add(walk(s, 1, 5));
            all.add(walk(1, s, 5));
            all.add(walk(s, 1, 0));
            all.add(walk(1, s, 0));
            all.add(walk(s, s, 5));
        }
        for (int t : NO_TIMES) {
            all.add(new Call("trip(6, " + t + ")", x -> x.trip(6, t), noTrip));
            all.add(new Call("trip(8, " + t + ")", x -> x.trip(8, t), noTrip));
            all.add(new Call("call(6, " + t + ")", x -> x.call(6, t), BAD));
            all.add(new Call("call(8, " + t + ")", x -> x.call(8, t), BAD));
        }
        for (int i : NO_TRIPS) {
            all.add(cancel(i));
            all.add(delay(i, 0, 1));
        }
        for (int k : NO_CALLS) {
            all.add(delay(0, k, 1));
        }
        for (int d : NO_SHORT_TIMES) {
            all.add(delay(0, 0, d));
            all.add(walk(0, 1, d));
            all.add(walk(7, 3, d));
        }
        for (int s = 0; s < 8; s++) {
            all.add(walk(s, s, 0));
            all.add(walk(s, s, 1));
        }
        addRefusedQuestions(all);
        return all;
    }

    private static void addRefusedQuestions(List<Call> all) {
        for (int s : NO_STOPS) {
            all.add(new Call("arrival(" + s + ", 1, 0, 1)", x -> x.arrival(s, 1, 0, 1), BAD));
            all.add(new Call("arrival(1, " + s + ", 0, 1)", x -> x.arrival(1, s, 0, 1), BAD));
            all.add(new Call("fewest(" + s + ", 1, 0)", x -> x.fewest(s, 1, 0), BAD));
            all.add(new Call("fewest(1, " + s + ", 0)", x -> x.fewest(1, s, 0), BAD));
            all.add(new Call("choices(" + s + ", 1, 0)", x -> x.choices(s, 1, 0), BAD));
            all.add(new Call("choices(1, " + s + ", 0)", x -> x.choices(1, s, 0), BAD));
            all.add(new Call("leave(" + s + ", 1, 0)", x -> x.leave(s, 1, 0), BAD));
            all.add(new Call("leave(1, " + s + ", 0)", x -> x.leave(1, s, 0), BAD));
            all.add(new Call("within(" + s + ", 0, 999)", x -> x.within(s, 0, 999), BAD));
        }
        for (int t : NO_TIMES) {
            all.add(new Call("arrival(0, 1, " + t + ", 1)", x -> x.arrival(0, 1, t, 1), BAD));
            all.add(new Call("fewest(0, 1, " + t + ")", x -> x.fewest(0, 1, t), BAD));
            all.add(new Call("choices(0, 1, " + t + ")", x -> x.choices(0, 1, t), BAD));
            all.add(new Call("leave(0, 1, " + t + ")", x -> x.leave(0, 1, t), BAD));
            all.add(new Call("within(0, " + t + ", 999)", x -> x.within(0, t, 999), BAD));
            all.add(new Call("within(0, 0, " + t + ")", x -> x.within(0, 0, t), BAD));
        }
        for (int r : NO_RIDES) {
            all.add(new Call("arrival(0, 1, 0, " + r + ")", x -> x.arrival(0, 1, 0, r), BAD));
        }
    }

    private static List<Call> refusedWhenEmpty() {
        return List.of(
                new Call("call(0, 0)", x -> x.call(0, 0), BAD),
                new Call("call(7, 999)", x -> x.call(7, 999), BAD),
                cancel(0),
                delay(0, 0, 0),
                delay(0, 0, 99),
                new Call("arrival(0, 7, 0, 10)", x -> x.arrival(0, 7, 0, 10), NONE),
                new Call("fewest(0, 7, 0)", x -> x.fewest(0, 7, 0), NONE),
                new Call("leave(0, 7, 999)", x -> x.leave(0, 7, 999), NONE));
    }

    private static List<Call> refusedAtOneCall() {
        return List.of(
                new Call("call(2, 500)", x -> x.call(2, 500), BAD),
                new Call("call(2, 999)", x -> x.call(2, 999), BAD),
                new Call("call(3, 499)", x -> x.call(3, 499), BAD),
                cancel(1),
                delay(1, 0, 1),
                delay(0, 1, 1),
                new Call("arrival(2, 3, 0, 10)", x -> x.arrival(2, 3, 0, 10), NONE));
    }

    private static List<Call> refusedAtSomeTrips() {
        List<Call> all = new ArrayList<>();
        for (int stop = 1; stop <= 3; stop++) {
            int s = stop;
            all.add(new Call("call(" + s + ", 950)", x -> x.call(s, 950), BAD));
            all.add(new Call("call(" + s + ", 0)", x -> x.call(s, 0), BAD));
        }
        all.add(new Call("call(4, 949)", x -> x.call(4, 949), BAD));
        all.add(new Call("call(4, 0)", x -> x.call(4, 0), BAD));
        all.add(cancel(4));
        all.add(delay(4, 0, 1));
        all.add(delay(0, 2, 1));
        all.add(delay(1, 5, 1));
        all.add(delay(2, 1, 1));
        all.add(delay(3, 3, 1));
        for (int k = 0; k < 3; k++) {
            all.add(delay(3, k, 50));
            all.add(delay(3, k, 99));
        }
        return all;
    }

    private static List<Call> refusedWhenFull() {
        List<Call> all = new ArrayList<>();
        for (int stop = 0; stop < 8; stop++) {
            int s = stop;
            all.add(new Call("trip(" + s + ", 0)", x -> x.trip(s, 0), FULL));
            all.add(new Call("trip(" + s + ", 999)", x -> x.trip(s, 999), FULL));
            all.add(new Call("call(" + s + ", 0)", x -> x.call(s, 0), FULL));
            all.add(new Call("call(" + s + ", 999)", x -> x.call(s, 999), FULL));
        }
        for (int k = 0; k < 5; k++) {
            all.add(delay(9, k, 1));
            all.add(delay(9, k, 99));
        }
        for (int i = 0; i < 10; i++) {
            all.add(delay(i, 5, 0));
            all.add(delay(i, 5, 1));
        }
        return all;
    }

    private static Call walk(int a, int b, int time) {
        return new Call("walk(" + a + ", " + b + ", " + time + ")", x -> x.walk(a, b, time) ? 1 : 0, 0);
    }

    private static Call delay(int i, int k, int by) {
        return new Call("delay(" + i + ", " + k + ", " + by + ")", x -> x.delay(i, k, by) ? 1 : 0, 0);
    }

    private static Call cancel(int i) {
        return new Call("cancel(" + i + ")", x -> x.cancel(i), BAD);
    }

    /** Questions with numbers as they should be; what they answer is looked at elsewhere. */
    private static List<Call> questions() {
        List<Call> all = new ArrayList<>();
        for (int stop = 0; stop < 8; stop++) {
            int b = stop;
            all.add(new Call("arrival(0, " + b + ", 0, 10)", x -> 0 * x.arrival(0, b, 0, 10), 0));
            all.add(new Call("fewest(1, " + b + ", 999)", x -> 0 * x.fewest(1, b, 999), 0));
            all.add(new Call("choices(3, " + b + ", 0)", x -> 0 * x.choices(3, b, 0), 0));
            all.add(new Call("leave(4, " + b + ", 999)", x -> 0 * x.leave(4, b, 999), 0));
            all.add(new Call("within(" + b + ", 0, 999)", x -> 0 * x.within(b, 0, 999), 0));
        }
        return all;
    }

    // ---- The look at a state

    /** All that an object holds; each trip is looked at alone, on an object of its own. */
    private static String look(Supplier<TransitRounds> state) {
        StringBuilder all = new StringBuilder();
        int trips = lookAtWalks(all, state.get());
        for (int i = 0; i < trips; i++) {
            lookAtTrip(all, state.get(), i, trips);
        }
        return all.toString();
    }

    private static int lookAtWalks(StringBuilder all, TransitRounds x) {
        int trips = 0;
        while (trips < 20 && x.cancel(0) != BAD) {
            trips++;
        }
        all.append(trips).append(" trips, walks:");
        for (int a = 0; a < 8; a++) {
            for (int b = 0; b < 8; b++) {
                all.append(' ').append(x.arrival(a, b, 0, 0));
            }
        }
        return trips;
    }

    private static void lookAtTrip(StringBuilder all, TransitRounds x, int i, int trips) {
        for (int later = trips - 1; later > i; later--) {
            x.cancel(later);
        }
        for (int n = 0; n < i; n++) {
            x.cancel(0);
        }
        for (int a = 0; a < 8; a++) {
            for (int b = a + 1; b < 8; b++) {
                x.walk(a, b, 0);
            }
        }
        all.append("\ntrip ").append(i).append(':');
        for (int k = 0; k < 6; k++) {
            all.append(' ').append(x.delay(0, k, 0));
        }
        // A second call lets one see where and when a trip of one call is.
        for (int stop = 0; stop < 8; stop++) {
            all.append(' ').append(x.call(stop, 999));
        }
        for (int a = 0; a < 8; a++) {
            lookFrom(all, x, a);
        }
    }

    private static void lookFrom(StringBuilder all, TransitRounds x, int a) {
        int carriedTo = a;
        for (int b = 0; b < 8; b++) {
            int arrival = x.arrival(a, b, 0, 1);
            all.append(' ').append(arrival);
            if (b != a && arrival != NONE) {
                carriedTo = b;
            }
        }
        if (carriedTo != a) {
            all.append(" from ").append(lastBoarding(x, a, carriedTo));
        }
    }

    /** The greatest t at which one still gets from a to b, found by halving to keep below 512 calls. */
    private static int lastBoarding(TransitRounds x, int a, int b) {
        int yes = 0;
        int no = 1000;
        while (no - yes > 1) {
            int middle = (yes + no) / 2;
            if (x.arrival(a, b, middle, 1) == NONE) {
                no = middle;
            } else {
                yes = middle;
            }
        }
        return yes;
    }

    /** A look that saw too little would let every call pass, so small changes must show. */
    private static void theLookTellsStatesApart() {
        shows("trip", x -> x.trip(5, 0));
        shows("call", x -> x.call(4, 950));
        for (int i = 0; i < 4; i++) {
            int trip = i;
            shows("cancel " + i, x -> x.cancel(trip));
        }
        int[] calls = {2, 5, 1, 3};
        for (int i = 0; i < 4; i++) {
            for (int k = 0; k < calls[i]; k++) {
                int trip = i;
                int call = k;
                shows("delay " + i + " " + k, x -> x.delay(trip, call, 1) ? 1 : 0);
            }
        }
        shows("walk there", x -> x.walk(0, 1, 2) ? 1 : 0);
        shows("walk away", x -> x.walk(0, 1, 0) ? 1 : 0);
        shows("walk new", x -> x.walk(0, 2, 99) ? 1 : 0);
    }

    private static void shows(String what, ToIntFunction<TransitRounds> change) {
        String after = look(() -> {
            TransitRounds x = someTrips();
            change.applyAsInt(x);
            return x;
        });
        if (after.equals(look(RefusalTest::someTrips))) {
            fault("the look does not show: " + what);
        }
    }

    private static void fault(String what) {
        wrong++;
        System.out.println(what);
    }
}
