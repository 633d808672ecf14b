import java.util.ArrayList;
import java.util.List;
import java.util.function.Consumer;

/**
 * The calls that make a desk ready for a test. It can make the same desk any number of times, so
 * that a desk that refused a call can be compared with one that never heard it.
 */
final class Recipe {

    private final List<Consumer<DutyDesk>> steps;

    Recipe() {
        this(List.of());
    }

    private Recipe(List<Consumer<DutyDesk>> steps) {
        this.steps = steps;
    }

    /** A new recipe: this one, and a step behind it. */
    Recipe then(Consumer<DutyDesk> step) {
        List<Consumer<DutyDesk>> more = new ArrayList<>(steps);
        more.add(step);
        return new Recipe(more);
    }

    DutyDesk make() {
        DutyDesk desk = new DutyDesk();
        for (Consumer<DutyDesk> step : steps) {
            step.accept(desk);
        }
        return desk;
    }

    Recipe rules(int driving, int spread, int pause, int rest) {
        return then(x -> x.setRules(driving, spread, pause, rest));
    }

    Recipe way(int a, int b, int minutes) {
        return then(x -> x.setWay(a, b, minutes));
    }

    Recipe trip(int from, int to, int departure, int arrival) {
        return then(x -> x.addTrip(from, to, departure, arrival));
    }

    /** Trips from the depot to the depot; their times are a departure, an arrival, and so on. */
    Recipe trips(int... times) {
        Recipe more = this;
        for (int i = 0; i + 1 < times.length; i += 2) {
            more = more.trip(0, 0, times[i], times[i + 1]);
        }
        return more;
    }

    /** Depot trips from a number to below another one: the trip n departs at 10 * n. */
    Recipe tripsInARow(int first, int end) {
        Recipe more = this;
        for (int trip = first; trip < end; trip++) {
            more = more.trips(10 * trip, 10 * trip + 5);
        }
        return more;
    }

    /** A new duty with these trips. */
    Recipe duty(int... trips) {
        return then(x -> {
            int duty = x.addDuty();
            for (int trip : trips) {
                x.put(duty, trip);
            }
        });
    }

    /** So many new duties without trips. */
    Recipe emptyDuties(int many) {
        Recipe more = this;
        for (int i = 0; i < many; i++) {
            more = more.duty();
        }
        return more;
    }

    /** A new duty with depot trips of its own; their numbers are the next free ones. */
    Recipe dutyOf(int... times) {
        return then(x -> {
            int duty = x.addDuty();
            for (int i = 0; i + 1 < times.length; i += 2) {
                x.put(duty, x.addTrip(0, 0, times[i], times[i + 1]));
            }
        });
    }

    /** A new duty of this work (16 to 615), which begins at 90 and has no idle time. */
    Recipe dutyOfWork(int work) {
        return then(x -> {
            int duty = x.addDuty();
            int end = work + 85;
            for (int time = 100; time < end; time += 240) {
                x.put(duty, x.addTrip(0, 0, time, Math.min(time + 240, end)));
            }
        });
    }

    Recipe drivers(int many) {
        Recipe more = this;
        for (int i = 0; i < many; i++) {
            more = more.then(x -> x.addDriver());
        }
        return more;
    }

    Recipe give(int driver, int duty, int... days) {
        Recipe more = this;
        for (int day : days) {
            more = more.then(x -> x.give(driver, day, duty));
        }
        return more;
    }

    /** Rules that seldom stand in the way: driving 600, spread 1000, a break of 30, no rest. */
    static Recipe wide() {
        return new Recipe().rules(600, 1000, 30, 0);
    }

    /**
     * A desk with something of everything: duty 0 is fixed (driver 0 has it on day 2), duty 1 has
     * two trips, duty 2 none; trip 4 is in no duty; driver 1 has nothing.
     */
    static Recipe mixed() {
        return new Recipe().rules(500, 900, 40, 600).way(0, 1, 20)
                .trip(0, 1, 300, 360).trip(1, 0, 400, 460)
                .trip(0, 2, 310, 380).trip(2, 0, 500, 560)
                .trip(0, 0, 700, 760)
                .duty(0, 1).duty(2, 3).duty().drivers(2).give(0, 0, 2);
    }
}
