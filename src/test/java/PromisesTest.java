/** The promises of the document one by one: ordinary inputs, edges and wrong inputs. */
public final class PromisesTest {
    private static final int BAD = TransitRounds.BAD;
    private static final int FULL = TransitRounds.FULL;
    private static final int NONE = TransitRounds.NONE;
    private static final int[] WRONG_STOPS = {-1, 8, Integer.MIN_VALUE, Integer.MAX_VALUE};
    private static final int[] WRONG_TIMES = {-1, 1000, Integer.MIN_VALUE, Integer.MAX_VALUE};

    private static int wrong = 0;

    public static void main(String[] args) {
        constants();
        promise1NewObject();
        promise2Trip();
        promise2TripLimits();
        promise3Call();
        promise3CallOrderOfTests();
        promise4Cancel();
        promise4CancelThenCall();
        promise5Delay();
        promise5DelayOfFullTrips();
        promise5DelayRefused();
        promise6Walk();
        promise6WalkRefused();
        promise7ArrivalByRides();
        promise7ArrivalBoarding();
        promise7ArrivalWalks();
        promise7ArrivalAfterTheLastTime();
        promise7ArrivalSameTripTwice();
        promise7ArrivalBad();
        promise8Fewest();
        promise8FewestSevenRides();
        promise8FewestBad();
        promise9Choices();
        promise9ChoicesBad();
        promise10Leave();
        promise10LeaveBad();
        promise11Within();
        promise11WithinBad();
        promise12BadBeforeNone();
        promise12RefusedCallsChangeNothing();
        promise12CallsAreNumberedFromZero();
        promise12QuestionsChangeNothing();
        promise12ObjectsAreApart();
        System.out.println(wrong == 0 ? "all answers are as due" : wrong + " answers are not as due");
        if (wrong != 0) {
            System.exit(1);
        }
    }

    private static void constants() {
        due("BAD", BAD, -1);
        due("FULL", FULL, -2);
        due("NONE", NONE, -3);
    }

    private static void promise1NewObject() {
        TransitRounds x = new TransitRounds();
        for (int a = 0; a < 8; a++) {
            due("1: only the stop itself " + a, x.within(a, 0, 999), 1 << a);
            for (int b = 0; b < 8; b++) {
                due("1: arrival " + a + " " + b, x.arrival(a, b, 0, 10), a == b ? 0 : NONE);
            }
        }
        due("1: no trip to cancel", x.cancel(0), BAD);
        due("1: no trip to delay", x.delay(0, 0, 0), false);
        due("1: no trip to add a call to", x.call(0, 0), BAD);
        due("1: the first trip is number 0", x.trip(0, 0), 0);
    }

    private static void promise2Trip() {
        TransitRounds x = new TransitRounds();
        due("2: first", x.trip(0, 0), 0);
        due("2: greatest stop and time", x.trip(7, 999), 1);
        due("2: the same again", x.trip(7, 999), 2);
        due("2: one call carries nobody", x.within(0, 0, 999), 1);
        due("2: it has one call", x.delay(0, 0, 0), true);
        due("2: and no second", x.delay(0, 1, 0), false);
        due("2: times of trips are apart", x.trip(3, 5), 3);
        due("2: call goes to the new trip", x.call(4, 6), 2);
        due("2: from its stop and time", x.arrival(3, 4, 5, 1), 6);
        due("2: not after it", x.arrival(3, 4, 6, 1), NONE);
    }

    private static void promise2TripLimits() {
        TransitRounds x = new TransitRounds();
        for (int i = 0; i < 10; i++) {
            for (int stop : WRONG_STOPS) {
                due("2: wrong stop " + stop, x.trip(stop, 0), BAD);
            }
            for (int time : WRONG_TIMES) {
                due("2: wrong time " + time, x.trip(0, time), BAD);
            }
            due("2: trip " + i, x.trip(i % 8, i), i);
        }
        due("2: an eleventh", x.trip(0, 0), FULL);
        due("2: FULL before BAD for the stop", x.trip(8, 0), FULL);
        due("2: FULL before BAD for the time", x.trip(0, -1), FULL);
        due("2: room again", x.cancel(4), 9);
        due("2: the tenth again", x.trip(0, 0), 9);
        due("2: and full again", x.trip(0, 0), FULL);
    }

    private static void promise3Call() {
        TransitRounds x = new TransitRounds();
        due("3: no trip", x.call(0, 0), BAD);
        x.trip(0, 10);
        due("3: second, same time", x.call(1, 10), 2);
        due("3: time falls", x.call(2, 9), BAD);
        due("3: stop is there, first", x.call(0, 20), BAD);
        due("3: stop is there, last", x.call(1, 20), BAD);
        due("3: third", x.call(7, 998), 3);
        due("3: fourth", x.call(3, 999), 4);
        due("3: time above the first but below the last", x.call(4, 500), BAD);
        due("3: fifth", x.call(4, 999), 5);
        due("3: sixth", x.call(5, 999), FULL);
        due("3: each call is served", x.within(0, 10, 999), 0b10011011);
        due("3: the fifth at its time", x.arrival(0, 4, 10, 1), 999);
        x.trip(0, 3);
        due("3: the latest trip, not the one before", x.call(5, 4), 2);
        due("3: a stop of another trip", x.call(1, 5), 3);
        due("3: arrives by the latest", x.arrival(0, 1, 0, 1), 5);
    }

    private static void promise3CallOrderOfTests() {
        TransitRounds x = new TransitRounds();
        x.trip(0, 10);
        for (int stop : WRONG_STOPS) {
            due("3: wrong stop " + stop, x.call(stop, 10), BAD);
        }
        for (int time : WRONG_TIMES) {
            due("3: wrong time " + time, x.call(1, time), BAD);
        }
        for (int stop = 1; stop < 5; stop++) {
            due("3: call " + stop, x.call(stop, 10), stop + 1);
        }
        due("3: BAD for the stop before FULL", x.call(8, 10), BAD);
        due("3: BAD for the time before FULL", x.call(5, 1000), BAD);
        due("3: FULL before a stop that is there", x.call(0, 10), FULL);
        due("3: FULL before a time that falls", x.call(5, 9), FULL);
    }

    private static void promise4Cancel() {
        TransitRounds x = new TransitRounds();
        x.trip(0, 10);
        x.call(1, 11);
        x.trip(0, 20);
        x.call(2, 22);
        x.call(3, 23);
        x.trip(0, 30);
        x.call(4, 34);
        due("4: below", x.cancel(-1), BAD);
        due("4: above", x.cancel(3), BAD);
        due("4: far below", x.cancel(Integer.MIN_VALUE), BAD);
        due("4: far above", x.cancel(Integer.MAX_VALUE), BAD);
        due("4: all three are there", x.within(0, 0, 999), 0b11111);
        due("4: the first", x.cancel(0), 2);
        due("4: its stop is out of reach", x.arrival(0, 1, 0, 10), NONE);
        due("4: the later ones stay", x.within(0, 0, 999), 0b11101);
        due("4: the second is number 0 now", x.delay(0, 2, 5), true);
        due("4: and is later", x.arrival(0, 3, 0, 1), 28);
        due("4: the third is number 1 now", x.delay(1, 1, 6), true);
        due("4: it has its own number of calls", x.delay(1, 2, 0), false);
        due("4: and is later too", x.arrival(0, 4, 0, 1), 40);
        due("4: the last", x.cancel(1), 1);
        due("4: it is out", x.arrival(0, 4, 0, 10), NONE);
        due("4: it cannot go twice", x.cancel(1), BAD);
        due("4: the only one", x.cancel(0), 0);
        due("4: none is left", x.cancel(0), BAD);
        due("4: nobody is carried", x.within(0, 0, 999), 1);
        due("4: numbers begin at 0 again", x.trip(5, 5), 0);
        due("4: with one call", x.delay(0, 1, 0), false);
    }

    private static void promise4CancelThenCall() {
        TransitRounds x = new TransitRounds();
        x.trip(0, 10);
        x.call(1, 20);
        x.trip(2, 50);
        x.call(3, 60);
        x.call(4, 70);
        due("4: the latest goes", x.cancel(1), 1);
        due("4: the one before is the latest", x.call(3, 25), 3);
        due("4: it is longer", x.arrival(0, 3, 0, 1), 25);
        x.trip(2, 50);
        due("4: the earlier goes", x.cancel(0), 1);
        due("4: the latest is still that", x.call(5, 55), 2);
        due("4: it runs from its stop", x.arrival(2, 5, 50, 1), 55);
        x.cancel(0);
        due("4: no trip for a call", x.call(6, 60), BAD);
        due("4: a new trip", x.trip(1, 10), 0);
        due("4: it has none of the stops that were taken out", x.call(5, 10), 2);
    }

    private static void promise5Delay() {
        TransitRounds x = new TransitRounds();
        x.trip(0, 10);
        x.call(1, 20);
        x.call(2, 30);
        x.trip(0, 10);
        x.call(3, 20);
        due("5: from the middle", x.delay(0, 1, 5), true);
        due("5: the call before stays", x.arrival(0, 1, 11, 1), NONE);
        due("5: the call itself", x.arrival(0, 1, 10, 1), 25);
        due("5: the call after", x.arrival(0, 2, 10, 1), 35);
        due("5: another trip stays", x.arrival(0, 3, 10, 1), 20);
        due("5: by nothing", x.delay(0, 0, 0), true);
        due("5: nothing moved", x.arrival(0, 2, 10, 1), 35);
        due("5: the last alone", x.delay(0, 2, 99), true);
        due("5: the last moved", x.arrival(0, 2, 10, 1), 134);
        due("5: the middle stays", x.arrival(0, 1, 10, 1), 25);
        due("5: the whole trip", x.delay(0, 0, 1), true);
        due("5: the start moved", x.arrival(0, 1, 11, 1), 26);
        due("5: a new call keeps to the new time", x.call(4, 19), BAD);
        due("5: the other trip later", x.delay(1, 1, 30), true);
        due("5: a new call is measured by it", x.call(4, 49), BAD);
        due("5: and fits there", x.call(4, 50), 3);
    }

    private static void promise5DelayOfFullTrips() {
        TransitRounds x = new TransitRounds();
        for (int i = 0; i < 10; i++) {
            x.trip(0, 10 * i);
            for (int stop = 1; stop < 5; stop++) {
                x.call(stop, 10 * i + stop);
            }
        }
        for (int i = 9; i >= 0; i--) {
            due("5: five calls of trip " + i, x.delay(i, 4, 5), true);
            due("5: no sixth call of trip " + i, x.delay(i, 5, 5), false);
        }
        for (int i = 0; i < 10; i++) {
            due("5: the end of trip " + i, x.arrival(0, 4, 10 * i, 1), 10 * i + 9);
            due("5: the start of trip " + i, x.leave(0, 3, 10 * i + 3), 10 * i);
        }
    }

    private static void promise5DelayRefused() {
        TransitRounds x = new TransitRounds();
        due("5: no trip", x.delay(0, 0, 0), false);
        x.trip(0, 900);
        x.call(1, 905);
        x.call(2, 910);
        int[][] refused = {
            {-1, 0, 1}, {1, 0, 1}, {0, -1, 1}, {0, 3, 1}, {0, 4, 1}, {0, 0, -1}, {0, 0, 100}, {0, 0, 90}, {0, 2, 90},
            {Integer.MIN_VALUE, 0, 0}, {Integer.MAX_VALUE, 0, 0}, {0, Integer.MIN_VALUE, 0}, {0, Integer.MAX_VALUE, 0},
            {0, 0, Integer.MIN_VALUE}, {0, 0, Integer.MAX_VALUE},
        };
        for (int[] r : refused) {
            due("5: delay(" + r[0] + ", " + r[1] + ", " + r[2] + ")", x.delay(r[0], r[1], r[2]), false);
            due("5: the middle stays", x.arrival(0, 1, 900, 1), 905);
            due("5: the end stays", x.arrival(0, 2, 900, 1), 910);
        }
        due("5: up to 999", x.delay(0, 0, 89), true);
        due("5: at 999", x.arrival(0, 2, 989, 1), 999);
        due("5: not one more", x.delay(0, 2, 1), false);
        due("5: nor from an earlier call", x.delay(0, 0, 1), false);
        due("5: nothing more is fine", x.delay(0, 2, 0), true);
    }

    private static void promise6Walk() {
        TransitRounds x = new TransitRounds();
        due("6: set", x.walk(0, 7, 99), true);
        due("6: there", x.arrival(0, 7, 0, 0), 99);
        due("6: and back", x.arrival(7, 0, 0, 0), 99);
        due("6: set anew from the other side", x.walk(7, 0, 1), true);
        due("6: there anew", x.arrival(0, 7, 5, 0), 6);
        due("6: and back anew", x.arrival(7, 0, 5, 0), 6);
        due("6: another", x.walk(1, 0, 4), true);
        due("6: the first stays", x.arrival(0, 7, 5, 0), 6);
        due("6: taken out", x.walk(0, 7, 0), true);
        due("6: none there", x.arrival(0, 7, 5, 10), NONE);
        due("6: none back", x.arrival(7, 0, 5, 10), NONE);
        due("6: the other stays", x.arrival(1, 0, 5, 10), 9);
        due("6: taken out though there is none", x.walk(2, 3, 0), true);
        due("6: still none", x.arrival(2, 3, 0, 10), NONE);
    }

    private static void promise6WalkRefused() {
        TransitRounds x = new TransitRounds();
        x.walk(0, 1, 9);
        for (int stop : WRONG_STOPS) {
            due("6: wrong a " + stop, x.walk(stop, 1, 5), false);
            due("6: wrong b " + stop, x.walk(0, stop, 5), false);
        }
        int[] wrongWalks = {-1, 100, Integer.MIN_VALUE, Integer.MAX_VALUE};
        for (int time : wrongWalks) {
            due("6: wrong time " + time, x.walk(0, 1, time), false);
        }
        for (int stop = 0; stop < 8; stop++) {
            due("6: to itself", x.walk(stop, stop, 5), false);
            due("6: to itself, none", x.walk(stop, stop, 0), false);
        }
        due("6: the walk stays", x.arrival(0, 1, 0, 0), 9);
        due("6: and is the only one", x.within(0, 0, 999), 0b11);
        due("6: in both directions", x.within(1, 0, 999), 0b11);
    }

    /** From 0 to 4: one ride arrives at 80, two at 60, three at 45. */
    private static TransitRounds threeWays() {
        TransitRounds x = new TransitRounds();
        x.trip(0, 12);
        x.call(4, 80);
        x.trip(0, 10);
        x.call(1, 20);
        x.trip(1, 20);
        x.call(2, 30);
        x.call(4, 60);
        x.trip(2, 30);
        x.call(4, 45);
        return x;
    }

    private static void promise7ArrivalByRides() {
        TransitRounds x = threeWays();
        due("7: no ride", x.arrival(0, 4, 5, 0), NONE);
        due("7: one ride", x.arrival(0, 4, 5, 1), 80);
        due("7: two rides", x.arrival(0, 4, 5, 2), 60);
        due("7: three rides", x.arrival(0, 4, 5, 3), 45);
        due("7: ten rides", x.arrival(0, 4, 5, 10), 45);
        due("7: too late for the changes", x.arrival(0, 4, 11, 10), 80);
        due("7: too late", x.arrival(0, 4, 13, 10), NONE);
        due("7: not against the trips", x.arrival(4, 0, 0, 10), NONE);
        for (int stop = 0; stop < 8; stop++) {
            due("7: where one is", x.arrival(stop, stop, 999, 0), 999);
            due("7: where one is, with rides", x.arrival(stop, stop, 0, 10), 0);
        }
    }

    private static void promise7ArrivalBoarding() {
        TransitRounds x = new TransitRounds();
        x.trip(0, 10);
        x.call(1, 20);
        x.call(2, 30);
        due("7: boards at the very time", x.arrival(0, 1, 10, 1), 20);
        due("7: not a unit later", x.arrival(0, 1, 11, 1), NONE);
        due("7: boards in the middle", x.arrival(1, 2, 20, 1), 30);
        due("7: not backwards", x.arrival(1, 0, 0, 10), NONE);
        due("7: nobody boards at the last call", x.within(2, 0, 999), 0b100);
        x.trip(2, 30);
        x.call(3, 30);
        due("7: changes at the very time", x.arrival(0, 3, 10, 2), 30);
        due("7: but that is a second ride", x.arrival(0, 3, 10, 1), NONE);
        x.delay(0, 2, 1);
        due("7: misses the change by one", x.arrival(0, 3, 10, 10), NONE);
    }

    private static void promise7ArrivalWalks() {
        TransitRounds x = new TransitRounds();
        x.walk(0, 1, 5);
        x.walk(1, 2, 5);
        due("7: one walk", x.arrival(0, 1, 0, 0), 5);
        due("7: no two walks in a row", x.arrival(0, 2, 0, 10), NONE);
        x.walk(0, 2, 50);
        due("7: the long walk though two are shorter", x.arrival(0, 2, 0, 10), 50);
        x.walk(0, 2, 0);
        x.trip(1, 5);
        x.call(3, 8);
        x.walk(3, 4, 2);
        x.walk(4, 5, 1);
        due("7: walk, ride", x.arrival(0, 3, 0, 1), 8);
        due("7: walk, ride, walk", x.arrival(0, 4, 0, 1), 10);
        due("7: walk, ride, walk, walk", x.arrival(0, 5, 0, 10), NONE);
        due("7: the walk is a unit too late", x.arrival(0, 4, 1, 10), NONE);
        x.trip(4, 10);
        x.call(5, 77);
        due("7: walk, ride, walk, ride", x.arrival(0, 5, 0, 2), 77);
        // A ride that comes later than the walk lets one walk on.
        x.trip(0, 20);
        x.call(1, 30);
        due("7: the walk is first there", x.arrival(0, 1, 0, 10), 5);
        due("7: the ride lets one walk on", x.arrival(0, 2, 0, 1), 35);
    }

    private static void promise7ArrivalAfterTheLastTime() {
        TransitRounds x = new TransitRounds();
        x.trip(0, 999);
        x.call(1, 999);
        x.walk(1, 2, 99);
        x.trip(2, 999);
        x.call(3, 999);
        due("7: a walk may end above 999", x.arrival(1, 2, 999, 0), 1098);
        due("7: after a ride too", x.arrival(0, 2, 0, 1), 1098);
        due("7: no trip runs then", x.arrival(0, 3, 0, 10), NONE);
        due("8: it counts as come to", x.fewest(0, 2, 0), 1);
        due("9: and as a choice", x.choices(0, 2, 0), 1);
        due("10: but not as in time", x.leave(0, 2, 999), NONE);
        due("11: nor as within", x.within(0, 0, 999), 0b0011);
    }

    private static void promise7ArrivalSameTripTwice() {
        TransitRounds x = new TransitRounds();
        x.trip(1, 5);
        x.call(2, 5);
        x.call(3, 5);
        x.call(4, 5);
        x.trip(4, 5);
        x.call(1, 5);
        due("7: 3 to 2 takes the trip, another and the trip again", x.arrival(3, 2, 5, 3), 5);
        due("7: not fewer", x.arrival(3, 2, 5, 2), NONE);
        due("8: three rides", x.fewest(3, 2, 0), 3);
    }

    private static void promise7ArrivalBad() {
        TransitRounds x = threeWays();
        for (int stop : WRONG_STOPS) {
            due("7: wrong a " + stop, x.arrival(stop, 4, 5, 10), BAD);
            due("7: wrong b " + stop, x.arrival(0, stop, 5, 10), BAD);
        }
        for (int time : WRONG_TIMES) {
            due("7: wrong t " + time, x.arrival(0, 4, time, 10), BAD);
            due("7: wrong t where one is " + time, x.arrival(0, 0, time, 0), BAD);
        }
        int[] wrongRides = {-1, 11, Integer.MIN_VALUE, Integer.MAX_VALUE};
        for (int rides : wrongRides) {
            due("7: wrong rides " + rides, x.arrival(0, 4, 5, rides), BAD);
            due("7: wrong rides where one is " + rides, x.arrival(0, 0, 5, rides), BAD);
        }
    }

    private static void promise8Fewest() {
        TransitRounds x = threeWays();
        due("8: one, though more are earlier", x.fewest(0, 4, 5), 1);
        due("8: two", x.fewest(0, 2, 5), 2);
        due("8: none where one is", x.fewest(3, 3, 999), 0);
        due("8: no journey", x.fewest(0, 7, 5), NONE);
        due("8: too late", x.fewest(0, 4, 13), NONE);
        x.walk(0, 2, 20);
        due("8: a walk is no ride", x.fewest(0, 2, 5), 0);
        x.walk(4, 7, 1);
        due("8: nor is it after a ride", x.fewest(0, 7, 5), 1);
    }

    private static void promise8FewestSevenRides() {
        TransitRounds x = new TransitRounds();
        for (int stop = 0; stop < 7; stop++) {
            x.trip(stop, stop);
            x.call(stop + 1, stop + 1);
        }
        for (int stop = 0; stop < 8; stop++) {
            due("8: rides to " + stop, x.fewest(0, stop, 0), stop);
        }
        due("7: seven rides", x.arrival(0, 7, 0, 7), 7);
        due("7: six rides", x.arrival(0, 7, 0, 6), NONE);
        due("9: one choice of seven rides", x.choices(0, 7, 0), 1);
        due("10: seven rides in time", x.leave(0, 7, 7), 0);
        due("11: all stops", x.within(0, 0, 7), 0b11111111);
        due("11: all but one", x.within(0, 0, 6), 0b01111111);
    }

    private static void promise8FewestBad() {
        TransitRounds x = threeWays();
        for (int stop : WRONG_STOPS) {
            due("8: wrong a " + stop, x.fewest(stop, 4, 5), BAD);
            due("8: wrong b " + stop, x.fewest(0, stop, 5), BAD);
            due("8: wrong a and b " + stop, x.fewest(stop, stop, 5), BAD);
        }
        for (int time : WRONG_TIMES) {
            due("8: wrong t " + time, x.fewest(0, 4, time), BAD);
            due("8: wrong t where one is " + time, x.fewest(0, 0, time), BAD);
        }
    }

    private static void promise9Choices() {
        TransitRounds x = threeWays();
        due("9: one, two and three rides", x.choices(0, 4, 5), 3);
        due("9: one ride", x.choices(0, 4, 11), 1);
        due("9: no journey", x.choices(0, 4, 13), 0);
        due("9: where one is", x.choices(0, 0, 999), 1);
        x.walk(0, 4, 90);
        due("9: a late walk is one more", x.choices(0, 4, 5), 4);
        x.walk(0, 4, 75);
        due("9: one ride no earlier than the walk", x.choices(0, 4, 5), 3);
        x.walk(0, 4, 40);
        due("9: no ride earlier than the walk", x.choices(0, 4, 5), 1);
        x.walk(0, 4, 0);
        x.delay(2, 2, 20);
        due("9: two rides no earlier than one", x.choices(0, 4, 5), 2);
    }

    private static void promise9ChoicesBad() {
        TransitRounds x = threeWays();
        for (int stop : WRONG_STOPS) {
            due("9: wrong a " + stop, x.choices(stop, 4, 5), BAD);
            due("9: wrong b " + stop, x.choices(0, stop, 5), BAD);
        }
        for (int time : WRONG_TIMES) {
            due("9: wrong t " + time, x.choices(0, 4, time), BAD);
            due("9: wrong t where one is " + time, x.choices(0, 0, time), BAD);
        }
    }

    private static void promise10Leave() {
        TransitRounds x = threeWays();
        due("10: with changes", x.leave(0, 4, 79), 10);
        due("10: just in time", x.leave(0, 4, 45), 10);
        due("10: not in time", x.leave(0, 4, 44), NONE);
        due("10: with one ride", x.leave(0, 4, 80), 12);
        due("10: by the end", x.leave(0, 4, 999), 12);
        due("10: no journey", x.leave(4, 0, 999), NONE);
        due("10: where one is", x.leave(5, 5, 999), 999);
        due("10: where one is, at 0", x.leave(5, 5, 0), 0);
        x.walk(0, 4, 9);
        due("10: by a walk", x.leave(0, 4, 999), 990);
        due("10: a walk from 0", x.leave(0, 4, 9), 0);
        due("10: a walk too long", x.leave(0, 4, 8), NONE);
        x.walk(0, 5, 20);
        x.trip(5, 20);
        x.call(6, 21);
        due("10: at 0 for a walk to a trip", x.leave(0, 6, 999), 0);
        x.walk(0, 5, 21);
        due("10: one would have to leave before 0", x.leave(0, 6, 999), NONE);
    }

    private static void promise10LeaveBad() {
        TransitRounds x = threeWays();
        for (int stop : WRONG_STOPS) {
            due("10: wrong a " + stop, x.leave(stop, 4, 80), BAD);
            due("10: wrong b " + stop, x.leave(0, stop, 80), BAD);
        }
        for (int time : WRONG_TIMES) {
            due("10: wrong by " + time, x.leave(0, 4, time), BAD);
            due("10: wrong by where one is " + time, x.leave(0, 0, time), BAD);
        }
    }

    private static void promise11Within() {
        TransitRounds x = threeWays();
        due("11: up to 19", x.within(0, 5, 19), 0b00001);
        due("11: up to 20", x.within(0, 5, 20), 0b00011);
        due("11: up to 30", x.within(0, 5, 30), 0b00111);
        due("11: up to 44", x.within(0, 5, 44), 0b00111);
        due("11: up to 45", x.within(0, 5, 45), 0b10111);
        due("11: t is by", x.within(6, 7, 7), 1 << 6);
        due("11: t is above by", x.within(6, 8, 7), 0);
        x.walk(4, 7, 5);
        due("11: a walk in time", x.within(0, 5, 50), 0b10010111);
        due("11: a walk not in time", x.within(0, 5, 49), 0b00010111);
    }

    private static void promise11WithinBad() {
        TransitRounds x = threeWays();
        for (int stop : WRONG_STOPS) {
            due("11: wrong a " + stop, x.within(stop, 5, 80), BAD);
        }
        for (int time : WRONG_TIMES) {
            due("11: wrong t " + time, x.within(0, time, 80), BAD);
            due("11: wrong by " + time, x.within(0, 5, time), BAD);
        }
    }

    private static void promise12BadBeforeNone() {
        TransitRounds x = new TransitRounds();
        due("12: arrival, no journey", x.arrival(0, 1, 0, 10), NONE);
        due("12: arrival, rides", x.arrival(0, 1, 0, 11), BAD);
        due("12: arrival, t", x.arrival(0, 1, 1000, 10), BAD);
        due("12: arrival, b", x.arrival(0, 8, 0, 10), BAD);
        due("12: fewest, no journey", x.fewest(0, 1, 0), NONE);
        due("12: fewest, t", x.fewest(0, 1, 1000), BAD);
        due("12: fewest, b", x.fewest(0, 8, 0), BAD);
        due("12: leave, no journey", x.leave(0, 1, 0), NONE);
        due("12: leave, by", x.leave(0, 1, 1000), BAD);
        due("12: leave, b", x.leave(0, 8, 0), BAD);
    }

    private static void promise12RefusedCallsChangeNothing() {
        TransitRounds x = threeWays();
        x.walk(3, 4, 7);
        String before = picture(x);
        x.trip(8, 0);
        x.trip(0, 1000);
        x.call(8, 99);
        x.call(5, 1000);
        x.call(4, 99);
        x.call(5, 44);
        x.cancel(-1);
        x.cancel(4);
        x.delay(4, 0, 9);
        x.delay(0, 2, 9);
        x.delay(0, 0, 100);
        x.delay(0, 0, -1);
        x.walk(3, 4, 100);
        x.walk(3, 4, -1);
        x.walk(3, 8, 1);
        x.walk(3, 3, 1);
        due("12: refused calls", before.equals(picture(x)), true);
        due("12: the latest trip has its two calls", x.call(5, 46), 3);
        due("12: there are four trips", x.trip(0, 0), 4);

        TransitRounds full = new TransitRounds();
        for (int i = 0; i < 10; i++) {
            full.trip(0, i);
            full.call(1, 20 + i);
        }
        full.call(2, 50);
        full.call(3, 51);
        full.call(4, 52);
        before = picture(full);
        due("12: an eleventh trip", full.trip(5, 0), FULL);
        due("12: a sixth call", full.call(5, 60), FULL);
        due("12: what was full is as before", before.equals(picture(full)), true);
        due("12: still ten trips", full.cancel(0), 9);
    }

    private static void promise12CallsAreNumberedFromZero() {
        TransitRounds x = new TransitRounds();
        x.trip(0, 10);
        x.call(1, 20);
        due("12: call 0 is the first", x.delay(0, 0, 5), true);
        due("12: it moved", x.arrival(0, 1, 15, 1), 25);
        due("12: call 1 is the second", x.delay(0, 1, 5), true);
        due("12: the first stays", x.arrival(0, 1, 16, 1), NONE);
        due("12: the second moved", x.arrival(0, 1, 15, 1), 30);
        due("12: there is no call 2", x.delay(0, 2, 5), false);
    }

    private static void promise12QuestionsChangeNothing() {
        TransitRounds x = threeWays();
        x.walk(0, 3, 9);
        due("12: asked twice", picture(x).equals(picture(x)), true);
    }

    private static void promise12ObjectsAreApart() {
        TransitRounds x = threeWays();
        TransitRounds y = new TransitRounds();
        y.walk(0, 4, 1);
        due("12: one object", x.arrival(0, 4, 5, 10), 45);
        due("12: another", y.arrival(0, 4, 5, 10), 6);
        due("12: the trips of one are not the other's", y.cancel(0), BAD);
    }

    /** What the questions answer, for comparing states; some 150 calls. */
    private static String picture(TransitRounds x) {
        StringBuilder all = new StringBuilder();
        for (int a = 0; a < 8; a++) {
            for (int b = 0; b < 8; b++) {
                all.append(x.arrival(a, b, 0, 10)).append(' ').append(x.choices(a, b, 10)).append(' ');
            }
            all.append(x.fewest(0, a, 5)).append(' ').append(x.leave(0, a, 999)).append(' ');
            all.append(x.within(a, 0, 40)).append('\n');
        }
        return all.toString();
    }

    private static void due(String what, boolean got, boolean want) {
        due(what, got ? 1 : 0, want ? 1 : 0);
    }

    private static void due(String what, int got, int want) {
        if (got != want) {
            wrong++;
            System.out.println("promise " + what + ": answered " + got + ", due is " + want);
        }
    }
}
