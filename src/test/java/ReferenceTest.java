import java.util.ArrayDeque;
import java.util.ArrayList;
import java.util.Arrays;
import java.util.List;

/**
 * Long runs of calls, the same ones each time, whose answers are compared with
 * those of a slow model that follows every journey and prefers none.
 */
public final class ReferenceTest {
    private static final int RUNS = 240;
    // As many as the document lets one object answer.
    private static final int CALLS = 512;

    private static int wrong = 0;
    private static long state;

    public static void main(String[] args) {
        for (int run = 0; run < RUNS && wrong < 20; run++) {
            compare(run);
        }
        System.out.println(wrong == 0 ? "all answers are as the model's" : wrong + " answers are not as the model's");
        if (wrong != 0) {
            System.exit(1);
        }
    }

    private static void compare(int run) {
        state = 88172645463325252L + run * 1000003L;
        TransitRounds x = new TransitRounds();
        Model model = new Model();
        // Short days make ties and tight changes, late ones reach the limit of 999.
        int[] spans = {3, 12, 60, 1000};
        int span = spans[run % 4];
        int from = run % 8 < 4 ? 0 : 1000 - span;
        int walks = run % 3 == 0 ? 99 : 6;
        for (int n = 0; n < CALLS; n++) {
            step(run, x, model, from, span, walks);
        }
    }

    private static void step(int run, TransitRounds x, Model model, int from, int span, int walks) {
        int kind = next(100);
        int a = stop();
        int b = stop();
        int t = time(from, span);
        int by = time(from, span);
        if (kind < 10) {
            due(run, "trip(" + a + ", " + t + ")", x.trip(a, t), model.trip(a, t));
        } else if (kind < 40) {
            int time = next(3) == 0 ? t : model.aTimeForACall(next(4));
            due(run, "call(" + a + ", " + time + ")", x.call(a, time), model.call(a, time));
        } else if (kind < 43) {
            int i = next(model.trips.size() + 2) - 1;
            due(run, "cancel(" + i + ")", x.cancel(i), model.cancel(i));
        } else if (kind < 50) {
            int i = next(model.trips.size() + 2) - 1;
            int k = next(7) - 1;
            int d = next(4) == 0 ? next(103) - 1 : next(4);
            due(run, "delay(" + i + ", " + k + ", " + d + ")", x.delay(i, k, d) ? 1 : 0, model.delay(i, k, d) ? 1 : 0);
        } else if (kind < 55) {
            int w = next(walks + 3) - 1;
            due(run, "walk(" + a + ", " + b + ", " + w + ")", x.walk(a, b, w) ? 1 : 0, model.walk(a, b, w) ? 1 : 0);
        } else if (kind < 58) {
            due(run, "walk(" + a + ", " + b + ", 0)", x.walk(a, b, 0) ? 1 : 0, model.walk(a, b, 0) ? 1 : 0);
        } else if (kind < 72) {
            int rides = next(3) == 0 ? next(13) - 1 : next(5);
            due(run, "arrival(" + a + ", " + b + ", " + t + ", " + rides + ")", x.arrival(a, b, t, rides), model.arrival(a, b, t, rides));
        } else if (kind < 80) {
            due(run, "fewest(" + a + ", " + b + ", " + t + ")", x.fewest(a, b, t), model.fewest(a, b, t));
        } else if (kind < 88) {
            due(run, "choices(" + a + ", " + b + ", " + t + ")", x.choices(a, b, t), model.choices(a, b, t));
        } else if (kind < 92) {
            due(run, "leave(" + a + ", " + b + ", " + by + ")", x.leave(a, b, by), model.leave(a, b, by));
        } else {
            due(run, "within(" + a + ", " + t + ", " + by + ")", x.within(a, t, by), model.within(a, t, by));
        }
    }

    private static int stop() {
        return next(40) == 0 ? next(2) * 9 - 1 : next(8);
    }

    private static int time(int from, int span) {
        return next(40) == 0 ? next(2) * 1001 - 1 : from + next(span);
    }

    private static int next(int bound) {
        state ^= state << 13;
        state ^= state >>> 7;
        state ^= state << 17;
        return (int) ((state >>> 11) % bound);
    }

    private static void due(int run, String call, int got, int want) {
        if (got != want) {
            wrong++;
            System.out.println("run " + run + ": " + call + " answered " + got + ", the model says " + want);
        }
    }

    private static final class Model {
        private static final int RIDES = 10;
        private static final int END = 1100;

        private final List<List<int[]>> trips = new ArrayList<>();
        private final int[][] walks = new int[8][8];
        // Holds the number of the search that saw a place last, so that no search need clear it.
        private final int[] seen = new int[(RIDES + 1) * 8 * 2 * END];
        private int searches = 0;

        int trip(int stop, int time) {
            if (trips.size() == 10) {
                return TransitRounds.FULL;
            }
            if (outside(stop, 7) || outside(time, 999)) {
                return TransitRounds.BAD;
            }
            List<int[]> calls = new ArrayList<>();
            calls.add(new int[] {stop, time});
            trips.add(calls);
            return trips.size() - 1;
        }

        int call(int stop, int time) {
            if (trips.isEmpty() || outside(stop, 7) || outside(time, 999)) {
                return TransitRounds.BAD;
            }
            List<int[]> calls = trips.get(trips.size() - 1);
            if (calls.size() == 5) {
                return TransitRounds.FULL;
            }
            for (int[] call : calls) {
                if (call[0] == stop || call[1] > time) {
                    return TransitRounds.BAD;
                }
            }
            calls.add(new int[] {stop, time});
            return calls.size();
        }

        int aTimeForACall(int later) {
            if (trips.isEmpty()) {
                return later;
            }
            List<int[]> calls = trips.get(trips.size() - 1);
            return calls.get(calls.size() - 1)[1] + later;
        }

        int cancel(int i) {
            if (outside(i, trips.size() - 1)) {
                return TransitRounds.BAD;
            }
            trips.remove(i);
            return trips.size();
        }

        boolean delay(int i, int k, int delay) {
            if (outside(i, trips.size() - 1) || outside(k, trips.get(i).size() - 1) || outside(delay, 99)) {
                return false;
            }
            List<int[]> late = trips.get(i).subList(k, trips.get(i).size());
            for (int[] call : late) {
                if (call[1] + delay > 999) {
                    return false;
                }
            }
            for (int[] call : late) {
                call[1] += delay;
            }
            return true;
        }

        boolean walk(int a, int b, int time) {
            if (outside(a, 7) || outside(b, 7) || a == b || outside(time, 99)) {
                return false;
            }
            walks[a][b] = time;
            walks[b][a] = time;
            return true;
        }

        int arrival(int a, int b, int t, int rides) {
            if (outside(a, 7) || outside(b, 7) || outside(t, 999) || outside(rides, RIDES)) {
                return TransitRounds.BAD;
            }
            int best = END;
            int[][] byRides = journeys(a, t);
            for (int k = 0; k <= rides; k++) {
                best = Math.min(best, byRides[k][b]);
            }
            return best == END ? TransitRounds.NONE : best;
        }

        int fewest(int a, int b, int t) {
            if (outside(a, 7) || outside(b, 7) || outside(t, 999)) {
                return TransitRounds.BAD;
            }
            int[][] byRides = journeys(a, t);
            for (int k = 0; k <= RIDES; k++) {
                if (byRides[k][b] < END) {
                    return k;
                }
            }
            return TransitRounds.NONE;
        }

        int choices(int a, int b, int t) {
            if (outside(a, 7) || outside(b, 7) || outside(t, 999)) {
                return TransitRounds.BAD;
            }
            int[][] byRides = journeys(a, t);
            int count = 0;
            for (int k = 0; k <= RIDES; k++) {
                boolean earlier = byRides[k][b] < END;
                for (int fewer = 0; fewer < k; fewer++) {
                    earlier &= byRides[k][b] < byRides[fewer][b];
                }
                count += earlier ? 1 : 0;
            }
            return count;
        }

        int leave(int a, int b, int by) {
            if (outside(a, 7) || outside(b, 7) || outside(by, 999)) {
                return TransitRounds.BAD;
            }
            for (int t = 999; t >= 0; t--) {
                int arrival = arrival(a, b, t, RIDES);
                if (arrival != TransitRounds.NONE && arrival <= by) {
                    return t;
                }
            }
            return TransitRounds.NONE;
        }

        int within(int a, int t, int by) {
            if (outside(a, 7) || outside(t, 999) || outside(by, 999)) {
                return TransitRounds.BAD;
            }
            int set = 0;
            for (int stop = 0; stop < 8; stop++) {
                int arrival = arrival(a, stop, t, RIDES);
                if (arrival != TransitRounds.NONE && arrival <= by) {
                    set += 1 << stop;
                }
            }
            return set;
        }

        /** The earliest end of all journeys with exactly k rides at each stop, END where there is none. */
        private int[][] journeys(int a, int t) {
            int[][] byRides = new int[RIDES + 1][8];
            for (int[] stops : byRides) {
                Arrays.fill(stops, END);
            }
            searches++;
            ArrayDeque<int[]> open = new ArrayDeque<>();
            reach(open, 0, a, 0, t);
            while (!open.isEmpty()) {
                int[] now = open.remove();
                byRides[now[0]][now[1]] = Math.min(byRides[now[0]][now[1]], now[3]);
                walkOn(open, now);
                rideOn(open, now);
            }
            return byRides;
        }

        private void walkOn(ArrayDeque<int[]> open, int[] now) {
            for (int to = 0; to < 8 && now[2] == 0; to++) {
                if (walks[now[1]][to] > 0) {
                    reach(open, now[0], to, 1, now[3] + walks[now[1]][to]);
                }
            }
        }

        private void rideOn(ArrayDeque<int[]> open, int[] now) {
            for (int i = 0; i < trips.size() && now[0] < RIDES; i++) {
                List<int[]> calls = trips.get(i);
                for (int on = 0; on < calls.size(); on++) {
                    boolean boards = calls.get(on)[0] == now[1] && now[3] <= calls.get(on)[1];
                    for (int off = on + 1; off < calls.size() && boards; off++) {
                        reach(open, now[0] + 1, calls.get(off)[0], 0, calls.get(off)[1]);
                    }
                }
            }
        }

        private void reach(ArrayDeque<int[]> open, int rides, int stop, int walked, int time) {
            int place = ((rides * 8 + stop) * 2 + walked) * END + time;
            if (seen[place] != searches) {
                seen[place] = searches;
                open.add(new int[] {rides, stop, walked, time});
            }
        }

        private static boolean outside(int n, int most) {
            return n < 0 || n > most;
        }
    }
}
