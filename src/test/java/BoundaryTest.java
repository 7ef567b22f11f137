/**
 * One test for each sentence of the document that names a boundary case, in the
 * document's order; the sentence stands above its test. What refused calls leave
 * as it was is looked at in RefusalTest.
 */
public final class BoundaryTest {
    private static final int BAD = TransitRounds.BAD;
    private static final int FULL = TransitRounds.FULL;
    private static final int NONE = TransitRounds.NONE;
    private static final int LEAST = Integer.MIN_VALUE;
    private static final int GREATEST = Integer.MAX_VALUE;
    // Beside the numbers next to a range and the farthest ones stand some that
    // a mask, a cast or a multiplication that wraps around would bring inside.
    private static final int[] NO_STOPS = {-1, 8, -8, 16, 256, 65536, 1 << 29, LEAST, LEAST + 1, GREATEST};
    private static final int[] NO_TIMES = {-1, 1000, -999, 1024, 65536, 1 << 30, LEAST, LEAST + 1, GREATEST};
    private static final int[] NO_DELAYS = {-1, 100, -99, 128, 256, 65536, LEAST, LEAST + 99, GREATEST};
    private static final int[] NO_RIDES = {-1, 11, -10, 16, 256, 65536, LEAST, LEAST + 10, GREATEST};
    private static final int[] NO_TRIPS = {-1, 10, 11, 256, 65536, 858993460, LEAST, GREATEST};
    private static final int[] NO_CALLS = {-1, 5, -5, 6, 256, 65536, LEAST, GREATEST};

    private static int wrong = 0;

    public static void main(String[] args) {
        whatItIs();
        terms();
        promise1();
        promise2();
        promise3();
        promise4();
        promise5();
        promise6();
        promise7();
        promise8();
        promise9();
        promise10();
        promise11();
        promise12();
        System.out.println(wrong == 0 ? "all answers are as due" : wrong + " answers are not as due");
        if (wrong != 0) {
            System.exit(1);
        }
    }

    // ---- What it is

    private static void whatItIs() {
        the512thCallIsAnsweredLikeTheFirst();
        manyRefusedCallsLeaveRoomForAll();
    }

    // "An object is used for at most 512 calls after it has been made"
    private static void the512thCallIsAnsweredLikeTheFirst() {
        due("512: trip", after511Calls().trip(7, 999), 1);
        due("512: call", after511Calls().call(7, 999), 3);
        due("512: cancel", after511Calls().cancel(0), 0);
        due("512: delay", after511Calls().delay(0, 1, 99), true);
        due("512: walk", after511Calls().walk(6, 7, 99), true);
        due("512: arrival", after511Calls().arrival(0, 2, 10, 10), 25);
        due("512: fewest", after511Calls().fewest(0, 2, 10), 1);
        due("512: choices", after511Calls().choices(0, 2, 10), 1);
        due("512: leave", after511Calls().leave(0, 2, 999), 10);
        due("512: within", after511Calls().within(0, 10, 25), 0b111);
    }

    private static TransitRounds after511Calls() {
        TransitRounds x = new TransitRounds();
        for (int n = 0; n < 127; n++) {
            due("512: trip of round " + n, x.trip(n % 8, n), 0);
            due("512: call of round " + n, x.call((n + 1) % 8, n), 2);
            due("512: delay of round " + n, x.delay(0, 1, 99), true);
            due("512: cancel of round " + n, x.cancel(0), 0);
        }
        x.trip(0, 10);
        x.call(1, 20);
        x.walk(1, 2, 5);
        return x;
    }

    private static void manyRefusedCallsLeaveRoomForAll() {
        TransitRounds x = new TransitRounds();
        for (int n = 0; n < 110; n++) {
            due("512: refused trip", x.trip(8, 0), BAD);
            due("512: refused call", x.call(0, 0), BAD);
            due("512: refused cancel", x.cancel(0), BAD);
            due("512: refused walk", x.walk(0, 0, 1), false);
        }
        for (int i = 0; i < 10; i++) {
            due("512: trip after refused ones", x.trip(0, i), i);
            for (int stop = 1; stop < 5; stop++) {
                due("512: call after refused ones", x.call(stop, 20 * stop), stop + 1);
            }
        }
        due("512: the tenth trip runs", x.arrival(0, 4, 9, 1), 80);
    }

    // ---- Terms

    private static void terms() {
        thereAreEightStops();
        thereAreUpToTenTripsNumberedFrom0();
        aTripIsAListOf2To5Calls();
        aTimeIsFrom0To999();
        timesNeverFallFromOneCallToTheNext();
        noStopComesTwiceInATrip();
        aWalkTakesFrom1To99InBothDirections();
        aJourneyBeginsAtItsTime();
        noTwoWalksInARow();
        boardingIsNotLaterThanTheCallsTime();
        aRideEndsAtALaterCall();
        aWalkTakesOneToTheOtherStopThatMuchLater();
        theCostIsTheNumberOfRides();
    }

    // "There are 8 STOPS, 0 to 7"
    private static void thereAreEightStops() {
        for (int stop = 0; stop < 8; stop++) {
            int other = 7 - stop;
            TransitRounds x = new TransitRounds();
            due("terms: trip at " + stop, x.trip(stop, 5), 0);
            due("terms: call at " + other, x.call(other, 6), 2);
            due("terms: arrival from " + stop, x.arrival(stop, other, 5, 1), 6);
            due("terms: fewest from " + stop, x.fewest(stop, other, 5), 1);
            due("terms: choices from " + stop, x.choices(stop, other, 5), 1);
            due("terms: leave from " + stop, x.leave(stop, other, 6), 5);
            due("terms: within from " + stop, x.within(stop, 5, 6), 1 << stop | 1 << other);
            due("terms: walk from " + stop, x.walk(stop, other, 1), true);
            due("terms: arrival by the walk", x.arrival(other, stop, 5, 0), 6);
        }
    }

    // "and up to 10 TRIPS, numbered from 0"
    private static void thereAreUpToTenTripsNumberedFrom0() {
        TransitRounds x = new TransitRounds();
        for (int i = 0; i < 10; i++) {
            due("terms: trip " + i, x.trip(i % 8, 100 * i), i);
            due("terms: its call", x.call((i + 1) % 8, 100 * i + 50), 2);
        }
        for (int i = 0; i < 10; i++) {
            due("terms: trip runs " + i, x.arrival(i % 8, (i + 1) % 8, 100 * i, 1), 100 * i + 50);
            due("terms: delay of trip " + i, x.delay(i, 1, i + 1), true);
            due("terms: trip is later " + i, x.arrival(i % 8, (i + 1) % 8, 100 * i, 1), 100 * i + 51 + i);
        }
    }

    // "A trip is a list of 2 to 5 CALLS"
    private static void aTripIsAListOf2To5Calls() {
        for (int calls = 2; calls <= 5; calls++) {
            TransitRounds x = tripOf(calls);
            for (int on = 0; on < calls; on++) {
                for (int off = on + 1; off < calls; off++) {
                    due("terms: trip of " + calls, x.arrival(on, off, 10 * on, 1), 10 * off);
                }
            }
            due("terms: no further than its calls", x.within(0, 0, 999), (1 << calls) - 1);
        }
    }

    // "a time, a whole number from 0 to 999, at which the trip is there"
    private static void aTimeIsFrom0To999() {
        TransitRounds x = new TransitRounds();
        due("terms: trip at 0", x.trip(0, 0), 0);
        due("terms: call at 0", x.call(1, 0), 2);
        due("terms: call at 999", x.call(2, 999), 3);
        due("terms: trip at 999", x.trip(3, 999), 1);
        due("terms: another call at 999", x.call(4, 999), 2);
        due("terms: from 0 to 0", x.arrival(0, 1, 0, 1), 0);
        due("terms: from 0 to 999", x.arrival(0, 2, 0, 1), 999);
        due("terms: from 999 to 999", x.arrival(3, 4, 999, 1), 999);
    }

    // "the times of a trip never fall from one call to the next"
    private static void timesNeverFallFromOneCallToTheNext() {
        TransitRounds x = new TransitRounds();
        x.trip(0, 500);
        due("terms: one less than the first", x.call(1, 499), BAD);
        due("terms: as the first", x.call(1, 500), 2);
        due("terms: later", x.call(2, 600), 3);
        due("terms: one less than the last", x.call(3, 599), BAD);
        due("terms: as the last", x.call(3, 600), 4);
        x.delay(0, 3, 99);
        due("terms: one less than the last as delayed", x.call(4, 698), BAD);
        due("terms: as the last as delayed", x.call(4, 699), 5);
    }

    // "and no stop comes twice in a trip"
    private static void noStopComesTwiceInATrip() {
        TransitRounds x = new TransitRounds();
        x.trip(0, 5);
        for (int stop = 1; stop < 5; stop++) {
            for (int before = 0; before < stop; before++) {
                due("terms: stop " + before + " again", x.call(before, 5), BAD);
                due("terms: stop " + before + " again, later", x.call(before, 999), BAD);
            }
            due("terms: stop " + stop, x.call(stop, 5), stop + 1);
        }
        x.trip(4, 5);
        due("terms: a stop of another trip", x.call(0, 5), 2);
    }

    // "A WALK between two different stops takes a number of time units from 1 to 99 in both directions,
    // or there is none"
    private static void aWalkTakesFrom1To99InBothDirections() {
        for (int time = 1; time <= 99; time += 49) {
            TransitRounds x = new TransitRounds();
            due("terms: walk of " + time, x.walk(2, 5, time), true);
            due("terms: there", x.arrival(2, 5, 100, 0), 100 + time);
            due("terms: back", x.arrival(5, 2, 100, 0), 100 + time);
            due("terms: no other walk from 2", x.within(2, 0, 999), 1 << 2 | 1 << 5);
            due("terms: none from 0", x.within(0, 0, 999), 1);
        }
    }

    // "A JOURNEY from stop a at time t begins at a at time t"
    private static void aJourneyBeginsAtItsTime() {
        TransitRounds x = new TransitRounds();
        x.trip(0, 10);
        x.call(1, 20);
        x.trip(0, 11);
        x.call(1, 30);
        due("terms: both trips are ahead", x.arrival(0, 1, 10, 1), 20);
        due("terms: one trip is gone", x.arrival(0, 1, 11, 1), 30);
        due("terms: both trips are gone", x.arrival(0, 1, 12, 1), NONE);
        x.walk(0, 1, 3);
        due("terms: the walk begins at t", x.arrival(0, 1, 12, 1), 15);
    }

    // "and is made of RIDES and walks, one after the other, no two walks in a row"
    private static void noTwoWalksInARow() {
        TransitRounds x = new TransitRounds();
        x.walk(0, 1, 1);
        x.walk(1, 2, 1);
        x.walk(2, 3, 1);
        due("terms: two walks", x.arrival(0, 2, 0, 10), NONE);
        due("terms: three walks", x.arrival(0, 3, 0, 10), NONE);
        due("terms: one walk to each side", x.within(1, 0, 999), 0b0111);
        x.trip(4, 5);
        x.call(0, 6);
        due("terms: two walks after a ride", x.arrival(4, 2, 0, 10), NONE);
        due("terms: one walk after a ride", x.arrival(4, 1, 0, 10), 7);
        x.trip(1, 8);
        x.call(2, 50);
        due("terms: ride, walk, ride, walk", x.arrival(4, 3, 0, 10), 51);
        x.trip(5, 2);
        x.call(6, 3);
        x.call(7, 4);
        x.trip(7, 4);
        x.call(0, 60);
        due("terms: two rides in a row, then a walk", x.arrival(5, 1, 0, 10), 61);
        x.walk(0, 2, 99);
        due("terms: the long walk, not the two short ones", x.arrival(0, 2, 0, 0), 99);
    }

    // "One may board a trip at a call if one is at its stop not later than its time"
    private static void boardingIsNotLaterThanTheCallsTime() {
        TransitRounds x = tripOf(5);
        for (int on = 0; on < 4; on++) {
            due("terms: at the time", x.arrival(on, 4, 10 * on, 1), 40);
            due("terms: one later", x.arrival(on, 4, 10 * on + 1, 10), NONE);
        }
        due("terms: earlier", x.arrival(3, 4, 0, 1), 40);
        x.trip(4, 40);
        x.call(5, 50);
        due("terms: changes at the time", x.arrival(0, 5, 0, 2), 50);
        x.delay(0, 4, 1);
        due("terms: changes one later", x.arrival(0, 5, 0, 10), NONE);
    }

    // "and leaves it at a later call of the trip, at that call's stop and time"
    private static void aRideEndsAtALaterCall() {
        TransitRounds x = new TransitRounds();
        x.trip(0, 10);
        x.call(1, 10);
        x.call(2, 10);
        x.call(3, 11);
        due("terms: a later call at the same time", x.arrival(0, 2, 10, 1), 10);
        due("terms: every later call", x.within(1, 10, 11), 0b1110);
        due("terms: no earlier call, though at the same time", x.arrival(2, 1, 10, 10), NONE);
        due("terms: nor the first", x.arrival(1, 0, 0, 10), NONE);
        due("terms: the last call leads nowhere", x.within(3, 0, 999), 0b1000);
    }

    // "A walk takes one to the other stop that much later"
    private static void aWalkTakesOneToTheOtherStopThatMuchLater() {
        TransitRounds x = new TransitRounds();
        x.walk(0, 1, 99);
        x.trip(1, 500);
        x.call(2, 501);
        due("terms: in time for the trip", x.arrival(0, 2, 401, 1), 501);
        due("terms: one too late for it", x.arrival(0, 2, 402, 10), NONE);
        due("terms: at 999", x.arrival(0, 1, 900, 0), 999);
        due("terms: above 999", x.arrival(0, 1, 901, 0), 1000);
        due("terms: as late as can be", x.arrival(1, 0, 999, 0), 1098);
    }

    // "The COST of a journey is its number of rides"
    private static void theCostIsTheNumberOfRides() {
        TransitRounds x = tripOf(5);
        due("terms: calls passed by cost nothing", x.fewest(0, 4, 0), 1);
        x.trip(5, 41);
        x.call(6, 42);
        x.walk(4, 5, 1);
        x.walk(6, 7, 1);
        due("terms: walks cost nothing", x.fewest(0, 7, 0), 2);
        due("terms: so two rides do", x.arrival(0, 7, 0, 2), 43);
        due("terms: and one does not", x.arrival(0, 7, 0, 1), NONE);
    }

    // ---- Promise 1

    private static void promise1() {
        aNewObjectHasNoTrips();
        aNewObjectHasNoWalks();
    }

    // "No trips"
    private static void aNewObjectHasNoTrips() {
        for (int i = 0; i < 10; i++) {
            due("1: nothing to cancel at " + i, new TransitRounds().cancel(i), BAD);
            due("1: nothing to delay at " + i, new TransitRounds().delay(i, 0, 0), false);
        }
        due("1: no latest trip", new TransitRounds().call(0, 0), BAD);
        due("1: the first one is 0", new TransitRounds().trip(0, 0), 0);
    }

    // "no walks"
    private static void aNewObjectHasNoWalks() {
        TransitRounds x = new TransitRounds();
        for (int a = 0; a < 8; a++) {
            for (int b = 0; b < 8; b++) {
                due("1: from " + a + " to " + b, x.arrival(a, b, 0, 0), a == b ? 0 : NONE);
            }
            due("1: within from " + a, x.within(a, 0, 999), 1 << a);
        }
    }

    // ---- Promise 2

    private static void promise2() {
        beginsANewTripWithOneCall();
        tenTripsAreThereFull();
        aTripIsTestedForFullFirst();
        aTripsStopOutsideIsBad();
        aTripsTimeOutsideIsBad();
        aTripAnswersItsNumber();
        aTripWithOneCallCarriesNobody();
    }

    // "Begins a new trip with one call"
    private static void beginsANewTripWithOneCall() {
        TransitRounds x = new TransitRounds();
        x.trip(3, 7);
        due("2: its one call", x.delay(0, 0, 0), true);
        due("2: no second", x.delay(0, 1, 0), false);
        due("2: at its stop", x.call(3, 7), BAD);
        due("2: at its time", x.call(4, 6), BAD);
        due("2: the next is the second", x.call(4, 7), 2);
        due("2: from its stop at its time", x.arrival(3, 4, 7, 1), 7);
    }

    // "10 trips are there: FULL"
    private static void tenTripsAreThereFull() {
        TransitRounds x = new TransitRounds();
        for (int i = 0; i < 10; i++) {
            due("2: trip " + i, x.trip(0, 0), i);
        }
        due("2: the eleventh", x.trip(0, 0), FULL);
        due("2: and again", x.trip(7, 999), FULL);
        due("2: nine are left", x.cancel(9), 9);
        due("2: room for one", x.trip(0, 0), 9);
        due("2: and no more", x.trip(0, 0), FULL);
        due("2: the tenth takes calls", x.call(1, 0), 2);
    }

    // "Tested in this order: 10 trips are there: FULL; stop outside 0..7 or time outside 0..999: BAD"
    private static void aTripIsTestedForFullFirst() {
        TransitRounds x = tenTrips();
        for (int stop : NO_STOPS) {
            due("2: full, stop " + stop, x.trip(stop, 0), FULL);
            due("2: full, stop and time", x.trip(stop, 1000), FULL);
        }
        for (int time : NO_TIMES) {
            due("2: full, time " + time, x.trip(0, time), FULL);
        }
        x.cancel(0);
        due("2: nine trips, stop", x.trip(8, 0), BAD);
        due("2: nine trips, time", x.trip(0, 1000), BAD);
    }

    // "stop outside 0..7 ...: BAD"
    private static void aTripsStopOutsideIsBad() {
        TransitRounds x = new TransitRounds();
        for (int stop : NO_STOPS) {
            due("2: stop " + stop, x.trip(stop, 0), BAD);
        }
        due("2: stop 0", x.trip(0, 0), 0);
        due("2: stop 7", x.trip(7, 0), 1);
    }

    // "or time outside 0..999: BAD"
    private static void aTripsTimeOutsideIsBad() {
        TransitRounds x = new TransitRounds();
        for (int time : NO_TIMES) {
            due("2: time " + time, x.trip(0, time), BAD);
            due("2: and stop", x.trip(8, time), BAD);
        }
        due("2: time 0", x.trip(0, 0), 0);
        due("2: time 999", x.trip(0, 999), 1);
    }

    // "Else answers the trip's number"
    private static void aTripAnswersItsNumber() {
        TransitRounds x = tenTrips();
        for (int left = 9; left >= 0; left--) {
            x.cancel(0);
            due("2: number after " + left, x.trip(1, 1), left);
            x.cancel(left);
        }
    }

    // "(A trip with only one call carries nobody.)"
    private static void aTripWithOneCallCarriesNobody() {
        TransitRounds x = new TransitRounds();
        for (int i = 0; i < 10; i++) {
            x.trip(i % 8, 0);
        }
        for (int a = 0; a < 8; a++) {
            due("2: nobody from " + a, x.within(a, 0, 999), 1 << a);
        }
        due("2: with a second call it does", x.call(5, 0), 2);
        due("2: from 1", x.within(1, 0, 999), 1 << 1 | 1 << 5);
    }

    // ---- Promise 3

    private static void promise3() {
        aCallIsAddedAtTheEndOfTheLatestTrip();
        aCallWithoutTripIsBad();
        aCallsStopOutsideIsBad();
        aCallsTimeOutsideIsBad();
        aCallOutsideIsTestedBeforeFull();
        fiveCallsAreFull();
        aCallIsTestedForFullBeforeStopAndTimeOfTheTrip();
        aStopInTheTripAlreadyIsBad();
        aTimeSmallerThanTheLastIsBad();
        aCallAnswersTheNumberOfCalls();
    }

    // "Adds a call at the end of the latest trip"
    private static void aCallIsAddedAtTheEndOfTheLatestTrip() {
        TransitRounds x = new TransitRounds();
        x.trip(0, 100);
        x.call(1, 200);
        x.trip(2, 10);
        due("3: goes to the latest", x.call(3, 20), 2);
        due("3: there it runs", x.arrival(2, 3, 10, 1), 20);
        due("3: the other has no more", x.delay(0, 2, 0), false);
        x.cancel(1);
        due("3: now the first is the latest", x.call(3, 200), 3);
        due("3: and goes on", x.arrival(0, 3, 100, 1), 200);
        TransitRounds full = tenTrips();
        due("3: ten trips do not hinder it", full.call(2, 999), 3);
        due("3: the tenth is longer", full.delay(9, 2, 0), true);
        due("3: the ninth is not", full.delay(8, 2, 0), false);
    }

    // "there is no trip ...: BAD"
    private static void aCallWithoutTripIsBad() {
        TransitRounds x = new TransitRounds();
        due("3: new object", x.call(0, 0), BAD);
        due("3: new object, 999", x.call(7, 999), BAD);
        due("3: no trip and no stop", x.call(8, 0), BAD);
        due("3: no trip and no time", x.call(0, 1000), BAD);
        x.trip(0, 0);
        x.cancel(0);
        due("3: all are cancelled", x.call(1, 0), BAD);
        TransitRounds five = tripOf(5);
        five.cancel(0);
        due("3: a full one is cancelled", five.call(5, 999), BAD);
    }

    // "stop outside 0..7 ...: BAD"
    private static void aCallsStopOutsideIsBad() {
        TransitRounds x = tripOf(1);
        for (int stop : NO_STOPS) {
            due("3: stop " + stop, x.call(stop, 999), BAD);
        }
        due("3: stop 7", x.call(7, 0), 2);
        TransitRounds y = new TransitRounds();
        y.trip(7, 0);
        due("3: stop 0", y.call(0, 0), 2);
    }

    // "or time outside 0..999: BAD"
    private static void aCallsTimeOutsideIsBad() {
        TransitRounds x = tripOf(1);
        for (int time : NO_TIMES) {
            due("3: time " + time, x.call(1, time), BAD);
        }
        due("3: time 0", x.call(1, 0), 2);
        due("3: time 999", x.call(2, 999), 3);
        due("3: time 1000 after 999", x.call(3, 1000), BAD);
    }

    // "Tested in this order: ... BAD; it has 5 calls: FULL"
    private static void aCallOutsideIsTestedBeforeFull() {
        TransitRounds x = tripOf(5);
        for (int stop : NO_STOPS) {
            due("3: five calls, stop " + stop, x.call(stop, 999), BAD);
        }
        for (int time : NO_TIMES) {
            due("3: five calls, time " + time, x.call(5, time), BAD);
        }
    }

    // "it has 5 calls: FULL"
    private static void fiveCallsAreFull() {
        due("3: four calls", tripOf(4).call(5, 999), 5);
        TransitRounds x = tripOf(5);
        due("3: five calls", x.call(5, 999), FULL);
        due("3: five calls, at the last time", x.call(7, 40), FULL);
        x.trip(5, 0);
        due("3: a new trip has room", x.call(6, 0), 2);
        x.cancel(1);
        due("3: the five are the latest again", x.call(5, 999), FULL);
    }

    // "it has 5 calls: FULL; the stop is in the trip already, or time is smaller ...: BAD"
    private static void aCallIsTestedForFullBeforeStopAndTimeOfTheTrip() {
        TransitRounds x = tripOf(5);
        for (int stop = 0; stop < 5; stop++) {
            due("3: full, stop there " + stop, x.call(stop, 999), FULL);
        }
        due("3: full, time smaller by one", x.call(5, 39), FULL);
        due("3: full, time 0", x.call(5, 0), FULL);
        due("3: full, both", x.call(0, 0), FULL);
    }

    // "the stop is in the trip already ...: BAD"
    private static void aStopInTheTripAlreadyIsBad() {
        for (int calls = 1; calls < 5; calls++) {
            TransitRounds x = tripOf(calls);
            for (int stop = 0; stop < calls; stop++) {
                due("3: stop " + stop + " of " + calls, x.call(stop, 999), BAD);
            }
            due("3: the next stop of " + calls, x.call(calls, 999), calls + 1);
        }
        TransitRounds again = tripOf(5);
        again.cancel(0);
        again.trip(0, 0);
        due("3: stops of a cancelled trip are free", again.call(4, 0), 2);
    }

    // "or time is smaller than that of its last call: BAD"
    private static void aTimeSmallerThanTheLastIsBad() {
        for (int calls = 2; calls < 5; calls++) {
            TransitRounds x = tripOf(calls);
            int last = 10 * (calls - 1);
            due("3: one smaller", x.call(7, last - 1), BAD);
            due("3: as the first", x.call(7, 0), BAD);
            due("3: both stop and time", x.call(0, 0), BAD);
            due("3: the same", x.call(7, last), calls + 1);
        }
        TransitRounds late = new TransitRounds();
        late.trip(0, 999);
        due("3: 998 after 999", late.call(1, 998), BAD);
        due("3: 999 after 999", late.call(1, 999), 2);
    }

    // "Else answers its number of calls"
    private static void aCallAnswersTheNumberOfCalls() {
        TransitRounds x = new TransitRounds();
        for (int i = 0; i < 10; i++) {
            x.trip(7, 0);
            for (int stop = 0; stop < 4; stop++) {
                due("3: number of calls", x.call(stop, 0), stop + 2);
            }
        }
    }

    // ---- Promise 4

    private static void promise4() {
        laterTripsMoveOneDown();
        thereIsNoTripToCancel();
        cancelAnswersTheNumberOfTripsLeft();
    }

    // "Takes trip i out; later ones move one down"
    private static void laterTripsMoveOneDown() {
        for (int out = 0; out < 10; out++) {
            TransitRounds x = new TransitRounds();
            for (int i = 0; i < 10; i++) {
                x.trip(0, 100 * i);
                for (int k = 1; k <= i % 5; k++) {
                    x.call(k, 100 * i + k);
                }
            }
            due("4: out goes " + out, x.cancel(out), 9);
            for (int i = 0; i < 9; i++) {
                int was = i < out ? i : i + 1;
                due("4: last call of " + was, x.delay(i, was % 5, 0), true);
                due("4: no further call of " + was, x.delay(i, was % 5 + 1, 0), false);
                due("4: runs or not, " + was, x.leave(0, 1, 100 * was + 1), latestWithACall(was, out));
            }
            due("4: the tenth number is free", x.delay(9, 0, 0), false);
        }
    }

    /** When the latest trip up to number i, without the one taken out, leaves stop 0 for stop 1. */
    private static int latestWithACall(int i, int out) {
        for (int n = i; n >= 0; n--) {
            if (n % 5 > 0 && n != out) {
                return 100 * n;
            }
        }
        return NONE;
    }

    // "There is none: BAD"
    private static void thereIsNoTripToCancel() {
        TransitRounds x = new TransitRounds();
        for (int trips = 0; trips <= 10; trips++) {
            for (int i : NO_TRIPS) {
                due("4: cancel " + i + " of " + trips, x.cancel(i), BAD);
            }
            due("4: cancel the one after the last of " + trips, x.cancel(trips), BAD);
            x.trip(0, 0);
        }
        due("4: all ten are there", x.cancel(9), 9);
        due("4: the tenth is not any more", x.cancel(9), BAD);
    }

    // "Else answers the number of trips left"
    private static void cancelAnswersTheNumberOfTripsLeft() {
        TransitRounds first = tenTrips();
        TransitRounds last = tenTrips();
        for (int left = 9; left >= 0; left--) {
            due("4: left by the first", first.cancel(0), left);
            due("4: left by the last", last.cancel(left), left);
        }
        due("4: none is left by the first", first.cancel(0), BAD);
        due("4: none is left by the last", last.cancel(0), BAD);
        due("4: nobody rides", first.within(0, 0, 999), 1);
        due("4: numbers begin anew", first.trip(0, 0), 0);
    }

    // ---- Promise 5

    private static void promise5() {
        allCallsFromNumberKOnAreLater();
        delayIsFrom0To99();
        thereIsNoSuchTrip();
        thereIsNoSuchCall();
        aTimeWouldBeAbove999();
        delaysAddUp();
    }

    // "Makes all calls of trip i from number k on by so much later"
    private static void allCallsFromNumberKOnAreLater() {
        for (int k = 0; k < 5; k++) {
            TransitRounds x = tripOf(5);
            x.trip(5, 0);
            x.call(6, 10);
            due("5: from " + k, x.delay(0, k, 5), true);
            for (int n = 1; n < 5; n++) {
                due("5: call " + n, x.arrival(n - 1, n, 0, 1), 10 * n + (n >= k ? 5 : 0));
            }
            int start = k == 0 ? 5 : 0;
            due("5: the first call", x.arrival(0, 1, start, 1), k <= 1 ? 15 : 10);
            due("5: the first call is no later", x.arrival(0, 1, start + 1, 1), NONE);
            due("5: the other trip stays", x.arrival(5, 6, 0, 1), 10);
        }
    }

    // "(delay 0 to 99)", "delay is out of range ...: refused, answers false"
    private static void delayIsFrom0To99() {
        TransitRounds x = tripOf(2);
        for (int delay : NO_DELAYS) {
            due("5: by " + delay, x.delay(0, 0, delay), false);
            due("5: the last by " + delay, x.delay(0, 1, delay), false);
        }
        due("5: as it was", x.arrival(0, 1, 0, 1), 10);
        due("5: by 0", x.delay(0, 0, 0), true);
        due("5: by 0, as it was", x.arrival(0, 1, 0, 1), 10);
        due("5: by 99", x.delay(0, 0, 99), true);
        due("5: by 99, later", x.arrival(0, 1, 99, 1), 109);
        due("5: by 1", x.delay(0, 1, 1), true);
        due("5: by 1, later", x.arrival(0, 1, 99, 1), 110);
    }

    // "There is no such call ...: refused, answers false", for want of the trip
    private static void thereIsNoSuchTrip() {
        TransitRounds x = new TransitRounds();
        for (int trips = 0; trips <= 10; trips++) {
            for (int i : NO_TRIPS) {
                due("5: trip " + i + " of " + trips, x.delay(i, 0, 0), false);
            }
            due("5: the one after the last of " + trips, x.delay(trips, 0, 0), false);
            x.trip(0, 0);
            due("5: the last", x.delay(trips < 10 ? trips : 9, 0, 0), true);
        }
        x.cancel(0);
        due("5: the tenth after a cancel", x.delay(9, 0, 0), false);
        due("5: the ninth after a cancel", x.delay(8, 0, 0), true);
    }

    // "There is no such call ...: refused, answers false", for want of the call
    private static void thereIsNoSuchCall() {
        for (int calls = 1; calls <= 5; calls++) {
            TransitRounds x = tripOf(calls);
            x.trip(0, 0);
            x.call(1, 0);
            for (int k : NO_CALLS) {
                due("5: call " + k + " of " + calls, x.delay(0, k, 0), false);
            }
            due("5: the last of " + calls, x.delay(0, calls - 1, 0), true);
            due("5: the one after it", x.delay(0, calls, 0), false);
        }
        TransitRounds again = tripOf(5);
        again.cancel(0);
        again.trip(0, 0);
        for (int k = 1; k < 5; k++) {
            due("5: call of a cancelled trip", again.delay(0, k, 0), false);
        }
    }

    // "or a time would be above 999: refused, answers false"
    private static void aTimeWouldBeAbove999() {
        TransitRounds x = new TransitRounds();
        x.trip(0, 0);
        x.call(1, 899);
        x.call(2, 950);
        x.call(3, 950);
        for (int k = 0; k < 4; k++) {
            due("5: the last would be at 1000, from " + k, x.delay(0, k, 50), false);
        }
        due("5: the second as it was", x.arrival(0, 1, 0, 1), 899);
        due("5: the last as it was", x.arrival(0, 3, 0, 1), 950);
        due("5: the last at 999", x.delay(0, 0, 49), true);
        due("5: it is", x.arrival(0, 3, 49, 1), 999);
        due("5: by 1 more", x.delay(0, 3, 1), false);
        due("5: the first by 1 more", x.delay(0, 0, 1), false);
        due("5: by 0 more", x.delay(0, 0, 0), true);
        TransitRounds one = new TransitRounds();
        one.trip(0, 900);
        due("5: one call to 999", one.delay(0, 0, 99), true);
        due("5: one call to 1000", one.delay(0, 0, 1), false);
    }

    private static void delaysAddUp() {
        TransitRounds x = new TransitRounds();
        x.trip(0, 0);
        x.call(1, 0);
        for (int n = 1; n <= 10; n++) {
            due("5: delay number " + n, x.delay(0, 1, 99), true);
            due("5: later by " + 99 * n, x.arrival(0, 1, 0, 1), 99 * n);
        }
        due("5: 990 and 10", x.delay(0, 1, 10), false);
        due("5: 990 and 9", x.delay(0, 1, 9), true);
        due("5: at 999", x.arrival(0, 1, 0, 1), 999);
    }

    // ---- Promise 6

    private static void promise6() {
        setsTheWalkBetweenTwoStops();
        aWalkIsSetAnew();
        zeroSaysThereIsNoWalk();
        aWalksStopOutsideIsRefused();
        aWalkToTheSameStopIsRefused();
        aWalksTimeOutsideIsRefused();
    }

    // "Sets the walk between two stops"
    private static void setsTheWalkBetweenTwoStops() {
        TransitRounds x = new TransitRounds();
        for (int a = 0; a < 8; a++) {
            for (int b = a + 1; b < 8; b++) {
                boolean turned = (a + b) % 2 == 0;
                due("6: walk", x.walk(turned ? b : a, turned ? a : b, 1 + 8 * a + b), true);
            }
        }
        for (int a = 0; a < 8; a++) {
            for (int b = a + 1; b < 8; b++) {
                due("6: there", x.arrival(a, b, 0, 0), 1 + 8 * a + b);
                due("6: back", x.arrival(b, a, 0, 0), 1 + 8 * a + b);
            }
        }
    }

    // "Sets the walk ...", where there is one
    private static void aWalkIsSetAnew() {
        TransitRounds x = new TransitRounds();
        int[] times = {50, 99, 1, 1, 2};
        for (int time : times) {
            due("6: anew", x.walk(3, 4, time), true);
            due("6: there anew", x.arrival(3, 4, 7, 0), 7 + time);
            due("6: back anew", x.arrival(4, 3, 7, 0), 7 + time);
            due("6: anew from the other side", x.walk(4, 3, 100 - time), true);
            due("6: there from the other side", x.arrival(3, 4, 7, 0), 107 - time);
            due("6: back from the other side", x.arrival(4, 3, 7, 0), 107 - time);
        }
    }

    // "0: there is none"
    private static void zeroSaysThereIsNoWalk() {
        TransitRounds x = new TransitRounds();
        due("6: none where none was", x.walk(0, 7, 0), true);
        due("6: it does not bring one there in no time", x.arrival(0, 7, 5, 10), NONE);
        x.walk(0, 7, 1);
        x.walk(0, 6, 1);
        due("6: taken away", x.walk(0, 7, 0), true);
        due("6: not there", x.arrival(0, 7, 5, 10), NONE);
        due("6: not back", x.arrival(7, 0, 5, 10), NONE);
        due("6: the other is there", x.arrival(0, 6, 5, 10), 6);
        x.walk(0, 7, 1);
        due("6: taken away from the other side", x.walk(7, 0, 0), true);
        due("6: not there either", x.within(0, 0, 999), 1 | 1 << 6);
        due("6: nor back", x.within(7, 0, 999), 1 << 7);
        due("6: once more", x.walk(7, 0, 0), true);
        due("6: set again", x.walk(7, 0, 99), true);
        due("6: there again", x.arrival(0, 7, 5, 0), 104);
    }

    // "a or b outside 0..7 ...: refused, answers false"
    private static void aWalksStopOutsideIsRefused() {
        TransitRounds x = new TransitRounds();
        for (int stop : NO_STOPS) {
            due("6: a " + stop, x.walk(stop, 1, 1), false);
            due("6: b " + stop, x.walk(1, stop, 1), false);
            due("6: both " + stop, x.walk(stop, stop, 1), false);
            due("6: a for none", x.walk(stop, 1, 0), false);
            due("6: b for none", x.walk(1, stop, 0), false);
        }
        due("6: -1 and 8", x.walk(-1, 8, 1), false);
        for (int a = 0; a < 8; a++) {
            due("6: no walk came from it", x.within(a, 0, 999), 1 << a);
        }
        due("6: 0 and 7", x.walk(0, 7, 1), true);
        due("6: 7 and 0", x.walk(7, 0, 1), true);
    }

    // "a = b ...: refused, answers false"
    private static void aWalkToTheSameStopIsRefused() {
        TransitRounds x = new TransitRounds();
        for (int stop = 0; stop < 8; stop++) {
            due("6: same stop, none", x.walk(stop, stop, 0), false);
            due("6: same stop, 1", x.walk(stop, stop, 1), false);
            due("6: same stop, 99", x.walk(stop, stop, 99), false);
            due("6: one stays where one is", x.arrival(stop, stop, 5, 10), 5);
        }
    }

    // "or time outside 0..99: refused, answers false"
    private static void aWalksTimeOutsideIsRefused() {
        TransitRounds x = new TransitRounds();
        x.walk(0, 1, 50);
        for (int time : NO_DELAYS) {
            due("6: time " + time, x.walk(0, 1, time), false);
            due("6: time " + time + " where there is none", x.walk(2, 3, time), false);
        }
        due("6: as it was", x.arrival(0, 1, 0, 0), 50);
        due("6: none as before", x.arrival(2, 3, 0, 0), NONE);
        due("6: time 99", x.walk(0, 1, 99), true);
        due("6: time 1", x.walk(0, 1, 1), true);
        due("6: time 0", x.walk(0, 1, 0), true);
    }

    // ---- Promise 7

    private static void promise7() {
        atMostSoManyRides();
        tItselfWhereOneIs();
        noneIfThereIsNoJourney();
        arrivalOutsideIsBad();
        arrivalsRidesOutsideAreBad();
        arrivalAtTheEndsOfTime();
    }

    // "The earliest time at which a journey from a at time t with at most rides rides ends at b"
    private static void atMostSoManyRides() {
        TransitRounds x = earlierWithEachRide();
        int[] due = {99, 98, 90, 80, 70, 60, 50, 7, 7, 7, 7};
        for (int rides = 0; rides <= 10; rides++) {
            due("7: at most " + rides, x.arrival(0, 7, 0, rides), due[rides]);
        }
        x.walk(0, 7, 0);
        due("7: none without the walk", x.arrival(0, 7, 0, 0), NONE);
        due("7: one ride without the walk", x.arrival(0, 7, 0, 1), 98);
    }

    // "(t itself for a = b)"
    private static void tItselfWhereOneIs() {
        int[] times = {0, 1, 500, 999};
        for (int t : times) {
            TransitRounds x = earlierWithEachRide();
            for (int rides = 0; rides <= 10; rides++) {
                due("7: where one is, at " + t, x.arrival(0, 0, t, rides), t);
                due("7: at the last stop, at " + t, x.arrival(7, 7, t, rides), t);
            }
            due("7: new object, at " + t, new TransitRounds().arrival(4, 4, t, 0), t);
        }
    }

    // "NONE if there is none"
    private static void noneIfThereIsNoJourney() {
        TransitRounds x = tripOf(5);
        due("7: no ride", x.arrival(0, 1, 0, 0), NONE);
        due("7: one ride", x.arrival(0, 1, 0, 1), 10);
        due("7: a stop without trips", x.arrival(0, 5, 0, 10), NONE);
        due("7: from a stop without trips", x.arrival(5, 0, 0, 10), NONE);
        due("7: too late", x.arrival(0, 1, 1, 10), NONE);
        due("7: at the end of time", x.arrival(0, 1, 999, 10), NONE);
        due("7: the wrong way", x.arrival(1, 0, 0, 10), NONE);
        TransitRounds seven = ridesInARow();
        due("7: six rides of seven", seven.arrival(0, 7, 0, 6), NONE);
        due("7: seven of seven", seven.arrival(0, 7, 0, 7), 7);
        due("7: ten of seven", seven.arrival(0, 7, 0, 10), 7);
    }

    // "a or b outside 0..7, t outside 0..999 ...: BAD"
    private static void arrivalOutsideIsBad() {
        TransitRounds x = tripOf(5);
        for (int stop : NO_STOPS) {
            due("7: a " + stop, x.arrival(stop, 1, 0, 10), BAD);
            due("7: b " + stop, x.arrival(0, stop, 0, 10), BAD);
            due("7: a = b " + stop, x.arrival(stop, stop, 0, 10), BAD);
        }
        for (int t : NO_TIMES) {
            due("7: t " + t, x.arrival(0, 1, t, 10), BAD);
            due("7: t where one is " + t, x.arrival(0, 0, t, 0), BAD);
        }
    }

    // "or rides outside 0..10: BAD"
    private static void arrivalsRidesOutsideAreBad() {
        TransitRounds x = tripOf(5);
        for (int rides : NO_RIDES) {
            due("7: rides " + rides, x.arrival(0, 1, 0, rides), BAD);
            due("7: rides where one is " + rides, x.arrival(0, 0, 0, rides), BAD);
        }
        due("7: rides 0", x.arrival(0, 0, 0, 0), 0);
        due("7: rides 10", x.arrival(0, 1, 0, 10), 10);
    }

    private static void arrivalAtTheEndsOfTime() {
        TransitRounds x = atTheEndsOfTime();
        due("7: from 0 at 0", x.arrival(0, 1, 0, 1), 0);
        due("7: from 0 at 1", x.arrival(0, 1, 1, 1), NONE);
        due("7: from 2 at 998", x.arrival(2, 3, 998, 1), 999);
        due("7: from 2 at 999", x.arrival(2, 3, 999, 1), 999);
        due("7: walk at 0", x.arrival(4, 5, 0, 0), 99);
        due("7: walk at 999", x.arrival(4, 5, 999, 0), 1098);
    }

    // ---- Promise 8

    private static void promise8() {
        theFewestRides();
        fewestIsNoneIfThereIsNoJourney();
        fewestIsBadAsArrival();
    }

    // "The fewest rides with which b can be come to from a at time t, if there is any journey"
    private static void theFewestRides() {
        TransitRounds x = ridesInARow();
        for (int b = 0; b < 8; b++) {
            due("8: rides to " + b, x.fewest(0, b, 0), b);
            due("8: where one is, at 0", x.fewest(b, b, 0), 0);
            due("8: where one is, at 999", x.fewest(b, b, 999), 0);
        }
        TransitRounds choice = earlierWithEachRide();
        due("8: no ride though others are earlier", choice.fewest(0, 7, 0), 0);
        choice.walk(0, 7, 0);
        due("8: one ride though others are earlier", choice.fewest(0, 7, 0), 1);
        TransitRounds ends = atTheEndsOfTime();
        due("8: at 0", ends.fewest(0, 1, 0), 1);
        due("8: at 999", ends.fewest(2, 3, 999), 1);
        due("8: by a walk that ends above 999", ends.fewest(4, 5, 999), 0);
        due("8: by a ride and such a walk", ends.fewest(2, 6, 999), 1);
    }

    // "NONE if there is none"
    private static void fewestIsNoneIfThereIsNoJourney() {
        due("8: new object", new TransitRounds().fewest(0, 7, 0), NONE);
        TransitRounds x = ridesInARow();
        due("8: too late", x.fewest(0, 7, 1), NONE);
        due("8: at 999", x.fewest(0, 7, 999), NONE);
        due("8: the wrong way", x.fewest(7, 0, 0), NONE);
    }

    // "BAD as for arrival"
    private static void fewestIsBadAsArrival() {
        TransitRounds x = tripOf(5);
        for (int stop : NO_STOPS) {
            due("8: a " + stop, x.fewest(stop, 1, 0), BAD);
            due("8: b " + stop, x.fewest(0, stop, 0), BAD);
            due("8: a = b " + stop, x.fewest(stop, stop, 0), BAD);
        }
        for (int t : NO_TIMES) {
            due("8: t " + t, x.fewest(0, 1, t), BAD);
            due("8: t where one is " + t, x.fewest(0, 0, t), BAD);
        }
    }

    // ---- Promise 9

    private static void promise9() {
        earlierThanEveryOneWithFewerRides();
        forNoRidesThereIsOneWithoutRides();
        noChoiceIfThereIsNoJourney();
        choicesAreBadAsArrival();
    }

    // "The number of k from 0 to 10 for which a journey with at most k rides arrives at b earlier than every one with
    // fewer than k rides"
    private static void earlierThanEveryOneWithFewerRides() {
        TransitRounds x = earlierWithEachRide();
        due("9: from no ride to seven", x.choices(0, 7, 0), 8);
        x.walk(0, 7, 98);
        due("9: one ride as early as the walk", x.choices(0, 7, 0), 7);
        x.walk(0, 7, 8);
        due("9: seven rides by one earlier than the walk", x.choices(0, 7, 0), 2);
        x.walk(0, 7, 7);
        due("9: nothing is earlier than the walk", x.choices(0, 7, 0), 1);
        x.walk(0, 7, 0);
        due("9: from one ride to seven", x.choices(0, 7, 0), 7);
        due("9: seven rides alone", ridesInARow().choices(0, 7, 0), 1);
    }

    // "(for k = 0: for which there is one without rides)"
    private static void forNoRidesThereIsOneWithoutRides() {
        TransitRounds x = new TransitRounds();
        for (int stop = 0; stop < 8; stop++) {
            due("9: where one is, at 0", x.choices(stop, stop, 0), 1);
            due("9: where one is, at 999", x.choices(stop, stop, 999), 1);
        }
        TransitRounds ends = atTheEndsOfTime();
        due("9: a walk", ends.choices(4, 5, 0), 1);
        due("9: a walk that ends above 999", ends.choices(4, 5, 999), 1);
        due("9: a ride at 0", ends.choices(0, 1, 0), 1);
        due("9: a ride at 999", ends.choices(2, 3, 999), 1);
        ends.walk(2, 3, 1);
        due("9: a ride by one earlier than a walk above 999", ends.choices(2, 3, 999), 2);
        due("9: a walk as early as the ride", ends.choices(2, 3, 998), 1);
    }

    private static void noChoiceIfThereIsNoJourney() {
        due("9: new object", new TransitRounds().choices(0, 7, 0), 0);
        due("9: too late", ridesInARow().choices(0, 7, 1), 0);
        due("9: the wrong way", ridesInARow().choices(7, 0, 0), 0);
    }

    // "BAD as for arrival"
    private static void choicesAreBadAsArrival() {
        TransitRounds x = tripOf(5);
        for (int stop : NO_STOPS) {
            due("9: a " + stop, x.choices(stop, 1, 0), BAD);
            due("9: b " + stop, x.choices(0, stop, 0), BAD);
            due("9: a = b " + stop, x.choices(stop, stop, 0), BAD);
        }
        for (int t : NO_TIMES) {
            due("9: t " + t, x.choices(0, 1, t), BAD);
            due("9: t where one is " + t, x.choices(0, 0, t), BAD);
        }
    }

    // ---- Promise 10

    private static void promise10() {
        theGreatestTFrom0To999();
        leaveArrivesAtMostBy();
        leaveGoesWithUpToTenRides();
        leaveIsNoneIfThereIsNoJourney();
        leaveOutsideIsBad();
    }

    // "The greatest t from 0 to 999"
    private static void theGreatestTFrom0To999() {
        for (int stop = 0; stop < 8; stop++) {
            due("10: where one is, by 0", new TransitRounds().leave(stop, stop, 0), 0);
            due("10: where one is, by 1", new TransitRounds().leave(stop, stop, 1), 1);
            due("10: where one is, by 999", new TransitRounds().leave(stop, stop, 999), 999);
        }
        TransitRounds x = atTheEndsOfTime();
        due("10: at 0, by 0", x.leave(0, 1, 0), 0);
        due("10: at 0, by 999", x.leave(0, 1, 999), 0);
        due("10: at 999, by 999", x.leave(2, 3, 999), 999);
        due("10: a walk from 0", x.leave(4, 5, 99), 0);
        due("10: a walk to 999", x.leave(4, 5, 999), 900);
        x.walk(0, 1, 1);
        due("10: the walk is later than the trip", x.leave(0, 1, 999), 998);
        x.trip(4, 950);
        x.call(5, 960);
        due("10: the trip is later than the walk", x.leave(4, 5, 999), 950);
    }

    // "for which arrival(a, b, t, 10) is not NONE and at most by"
    private static void leaveArrivesAtMostBy() {
        TransitRounds x = tripOf(5);
        for (int b = 1; b < 5; b++) {
            due("10: by the very time", x.leave(b - 1, b, 10 * b), 10 * (b - 1));
            due("10: by one less", x.leave(b - 1, b, 10 * b - 1), NONE);
        }
        x.trip(0, 5);
        x.call(4, 41);
        due("10: the later trip is not in time", x.leave(0, 4, 40), 0);
        due("10: the later trip is in time", x.leave(0, 4, 41), 5);
        TransitRounds ends = atTheEndsOfTime();
        due("10: by 998 for 999", ends.leave(2, 3, 998), NONE);
        due("10: a walk that needs one more", ends.leave(4, 5, 98), NONE);
        due("10: a walk that can only end above 999", ends.leave(2, 6, 999), NONE);
    }

    // "arrival(a, b, t, 10)"
    private static void leaveGoesWithUpToTenRides() {
        TransitRounds x = ridesInARow();
        due("10: seven rides", x.leave(0, 7, 7), 0);
        due("10: seven rides are by one too late", x.leave(0, 7, 6), NONE);
        TransitRounds choice = earlierWithEachRide();
        choice.walk(0, 7, 0);
        due("10: in time with seven rides alone", choice.leave(0, 7, 49), 0);
    }

    // "NONE if there is none"
    private static void leaveIsNoneIfThereIsNoJourney() {
        due("10: new object, by 0", new TransitRounds().leave(0, 7, 0), NONE);
        due("10: new object, by 999", new TransitRounds().leave(0, 7, 999), NONE);
        TransitRounds x = new TransitRounds();
        x.walk(0, 1, 11);
        x.trip(1, 10);
        x.call(2, 20);
        due("10: one would have to leave before 0", x.leave(0, 2, 999), NONE);
        x.delay(0, 0, 1);
        due("10: one leaves at 0", x.leave(0, 2, 999), 0);
    }

    // "BAD for a or b outside 0..7 or by outside 0..999"
    private static void leaveOutsideIsBad() {
        TransitRounds x = tripOf(5);
        for (int stop : NO_STOPS) {
            due("10: a " + stop, x.leave(stop, 1, 999), BAD);
            due("10: b " + stop, x.leave(0, stop, 999), BAD);
            due("10: a = b " + stop, x.leave(stop, stop, 999), BAD);
        }
        for (int by : NO_TIMES) {
            due("10: by " + by, x.leave(0, 1, by), BAD);
            due("10: by where one is " + by, x.leave(0, 0, by), BAD);
        }
    }

    // ---- Promise 11

    private static void promise11() {
        theStopsNotLaterThanBy();
        withinGoesWithUpToTenRides();
        theStopItselfIfTIsAtMostBy();
        withinOutsideIsBad();
    }

    // "The stops to which a journey from a at time t ... arrives not later than by, as a set"
    private static void theStopsNotLaterThanBy() {
        TransitRounds x = tripOf(5);
        for (int b = 1; b < 5; b++) {
            due("11: by the very time", x.within(0, 0, 10 * b), (2 << b) - 1);
            due("11: by one less", x.within(0, 0, 10 * b - 1), (1 << b) - 1);
        }
        x.walk(4, 7, 9);
        due("11: the greatest stop", x.within(4, 0, 9), 1 << 4 | 1 << 7);
        due("11: by one less than the walk", x.within(4, 0, 8), 1 << 4);
        TransitRounds ends = atTheEndsOfTime();
        due("11: at 0 by 0", ends.within(0, 0, 0), 0b11);
        due("11: at 999 by 999", ends.within(2, 999, 999), 0b1100);
        due("11: a walk to 999", ends.within(4, 900, 999), 0b110000);
        due("11: a walk to 1000", ends.within(4, 901, 999), 0b010000);
    }

    // "with any number of rides up to 10"
    private static void withinGoesWithUpToTenRides() {
        TransitRounds x = ridesInARow();
        due("11: all stops", x.within(0, 0, 7), 255);
        due("11: all but the one of seven rides", x.within(0, 0, 6), 127);
        due("11: none with no ride", x.within(0, 1, 999), 1);
        TransitRounds choice = earlierWithEachRide();
        choice.walk(0, 7, 0);
        due("11: in time with seven rides alone", choice.within(0, 0, 7), 255);
    }

    // "(a itself if t is at most by)"
    private static void theStopItselfIfTIsAtMostBy() {
        for (int a = 0; a < 8; a++) {
            TransitRounds x = new TransitRounds();
            due("11: t = by = 0", x.within(a, 0, 0), 1 << a);
            due("11: t = by = 999", x.within(a, 999, 999), 1 << a);
            due("11: t one less than by", x.within(a, 499, 500), 1 << a);
            due("11: t one more than by", x.within(a, 500, 499), 0);
            due("11: t = 999, by = 0", x.within(a, 999, 0), 0);
            due("11: t = 0, by = 999", x.within(a, 0, 999), 1 << a);
        }
        due("11: empty though a trip was in time", tripOf(5).within(0, 11, 10), 0);
    }

    // "a outside 0..7, or t or by outside 0..999: BAD"
    private static void withinOutsideIsBad() {
        TransitRounds x = tripOf(5);
        for (int stop : NO_STOPS) {
            due("11: a " + stop, x.within(stop, 0, 999), BAD);
        }
        for (int time : NO_TIMES) {
            due("11: t " + time, x.within(0, time, 999), BAD);
            due("11: by " + time, x.within(0, 0, time), BAD);
            due("11: both " + time, x.within(0, time, time), BAD);
        }
        due("11: BAD though t is above by", x.within(0, 1000, 0), BAD);
        due("11: BAD though by is below t", x.within(0, 999, -1), BAD);
    }

    // ---- Promise 12

    private static void promise12() {
        badIsTestedBeforeNone();
        callsOfATripAreNumberedFrom0();
    }

    // "arrival, fewest, leave: BAD is tested before NONE"
    private static void badIsTestedBeforeNone() {
        TransitRounds x = new TransitRounds();
        due("12: arrival", x.arrival(0, 1, 0, 10), NONE);
        due("12: fewest", x.fewest(0, 1, 0), NONE);
        due("12: leave", x.leave(0, 1, 999), NONE);
        for (int stop : NO_STOPS) {
            due("12: arrival, a " + stop, x.arrival(stop, 1, 0, 10), BAD);
            due("12: arrival, b " + stop, x.arrival(0, stop, 0, 10), BAD);
            due("12: fewest, a " + stop, x.fewest(stop, 1, 0), BAD);
            due("12: fewest, b " + stop, x.fewest(0, stop, 0), BAD);
            due("12: leave, a " + stop, x.leave(stop, 1, 999), BAD);
            due("12: leave, b " + stop, x.leave(0, stop, 999), BAD);
        }
        for (int time : NO_TIMES) {
            due("12: arrival, t " + time, x.arrival(0, 1, time, 10), BAD);
            due("12: fewest, t " + time, x.fewest(0, 1, time), BAD);
            due("12: leave, by " + time, x.leave(0, 1, time), BAD);
        }
        for (int rides : NO_RIDES) {
            due("12: arrival, rides " + rides, x.arrival(0, 1, 0, rides), BAD);
        }
        due("12: arrival, all", x.arrival(8, 8, 1000, 11), BAD);
        due("12: fewest, all", x.fewest(-1, -1, -1), BAD);
        due("12: leave, all", x.leave(LEAST, GREATEST, LEAST), BAD);
    }

    // "delay: the calls of a trip are numbered from 0"
    private static void callsOfATripAreNumberedFrom0() {
        TransitRounds x = tripOf(2);
        due("12: number 0 is the first", x.delay(0, 0, 3), true);
        due("12: both are later", x.arrival(0, 1, 3, 1), 13);
        due("12: number 1 is the second", x.delay(0, 1, 4), true);
        due("12: it alone is later", x.arrival(0, 1, 3, 1), 17);
        due("12: the first is not", x.arrival(0, 1, 4, 1), NONE);
        due("12: number 2 is not there", x.delay(0, 2, 0), false);
        due("12: nor is number -1", x.delay(0, -1, 0), false);
    }

    // ---- States to begin with

    /** One trip that is at stop k at time 10 * k. */
    private static TransitRounds tripOf(int calls) {
        TransitRounds x = new TransitRounds();
        x.trip(0, 0);
        for (int k = 1; k < calls; k++) {
            x.call(k, 10 * k);
        }
        return x;
    }

    private static TransitRounds tenTrips() {
        TransitRounds x = new TransitRounds();
        for (int i = 0; i < 10; i++) {
            x.trip(0, i);
            x.call(1, 20 + i);
        }
        return x;
    }

    /** To stop k from stop 0 takes k rides, and ends at time k. */
    private static TransitRounds ridesInARow() {
        TransitRounds x = new TransitRounds();
        for (int stop = 0; stop < 7; stop++) {
            x.trip(stop, stop);
            x.call(stop + 1, stop + 1);
        }
        return x;
    }

    /** From 0 at 0 to 7: at 99 by a walk, at 98 with one ride, at 90 with two, ..., at 50 with six, at 7 with seven. */
    private static TransitRounds earlierWithEachRide() {
        TransitRounds x = new TransitRounds();
        // The other way round than in ridesInARow: neither order of the trips may give a ride more.
        x.trip(6, 6);
        x.call(7, 7);
        for (int stop = 5; stop >= 0; stop--) {
            x.trip(stop, stop);
            x.call(stop + 1, stop + 1);
            x.call(7, stop == 0 ? 98 : 100 - 10 * stop);
        }
        x.walk(0, 7, 99);
        return x;
    }

    /** A trip from 0 to 1 at time 0, one from 2 to 3 at time 999, walks of 99 from 4 to 5 and from 3 to 6. */
    private static TransitRounds atTheEndsOfTime() {
        TransitRounds x = new TransitRounds();
        x.trip(0, 0);
        x.call(1, 0);
        x.trip(2, 999);
        x.call(3, 999);
        x.walk(4, 5, 99);
        x.walk(3, 6, 99);
        return x;
    }

    private static void due(String what, boolean got, boolean want) {
        due(what, got ? 1 : 0, want ? 1 : 0);
    }

    private static void due(String what, int got, int want) {
        if (got != want) {
            wrong++;
            System.out.println(what + ": answered " + got + ", due is " + want);
        }
    }
}
