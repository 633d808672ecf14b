/** The boundary cases of promises 1 to 6, a test for each sentence of the document. */
public final class WaysTripsRulesBoundsTest {

    private static final Check CHECK = new Check("WaysTripsRulesBoundsTest");
    private static final Recipe NEW = new Recipe();
    private static final Recipe MIXED = Recipe.mixed();
    private static final int MIN = Integer.MIN_VALUE;
    private static final int MAX = Integer.MAX_VALUE;
    private static final int[] NO_POINTS = {-1, 6, MIN, MAX};

    public static void main(String[] args) {
        CHECK.test("1: Creates a desk", () -> desksOfTheirOwn());
        CHECK.test("1: without trips", () -> newWithoutTrips());
        CHECK.test("1: without duties", () -> newWithoutDuties());
        CHECK.test("1: without drivers", () -> newWithoutDrivers());
        CHECK.test("2: Returns the minutes before", () -> setWayAnswers());
        CHECK.test("2: if there is no such point", () -> setWayNoPoint());
        CHECK.test("2: if a and b are the same", () -> setWaySame());
        CHECK.test("2: or minutes is not 1 to 90", () -> setWayMinutes());
        CHECK.test("3: Returns its number", () -> addTripAnswers());
        CHECK.test("3: if there is no such point", () -> addTripNoPoint());
        CHECK.test("3: if departure is less than 0", () -> departureLessThan0());
        CHECK.test("3: arrival is not greater than departure", () -> arrivalNotGreater());
        CHECK.test("3: or more than 240 greater", () -> moreThan240Greater());
        CHECK.test("3: or greater than 1799", () -> arrivalAbove1799());
        CHECK.test("3: if there are 40 trips", () -> fortyTrips());
        CHECK.test("4: the duty in which it is, -1 if it is in none", () -> tripInNoDuty());
        CHECK.test("4: if there is no such trip", () -> tripNoTrip());
        CHECK.test("4: or what is not 0 to 4", () -> tripNoWhat());
        CHECK.test("5: Returns the number of duties that are not right", () -> rulesAnswer());
        CHECK.test("5: if driving is not 60 to 600", () -> rulesDriving());
        CHECK.test("5: spread is not 240 to 1000", () -> rulesSpread());
        CHECK.test("5: pause is not 10 to 90", () -> rulesPause());
        CHECK.test("5: or rest is not 0 to 900", () -> rulesRest());
        CHECK.test("6: Returns how many there are", () -> countEmptyAndFull());
        CHECK.test("6: if what is not 0 to 3", () -> countNoWhat());
        CHECK.end();
    }

    // ---- promise 1

    private static void desksOfTheirOwn() {
        Recipe other = Recipe.wide().way(0, 1, 90).dutyOf(100, 200).drivers(8).give(7, 0, 6);
        String mixedAlone = Look.of(MIXED.make());
        String otherAlone = Look.of(other.make());
        DutyDesk first = MIXED.make();
        DutyDesk second = other.make();
        CHECK.due("a look at the first of two desks", Look.of(first), mixedAlone);
        CHECK.due("a look at the second of two desks", Look.of(second), otherAlone);
    }

    private static void newWithoutTrips() {
        CHECK.onlyAsks(NEW, "count(0)", 0, x -> x.count(0));
        CHECK.onlyAsks(NEW, "count(3)", 0, x -> x.count(3));
        CHECK.onlyAsks(NEW, "plan()", 0, x -> x.plan());
        CHECK.noSuch(NEW, "trip(0, 0)", x -> x.trip(0, 0));
        CHECK.noSuch(NEW, "takeOut(0)", x -> x.takeOut(0));
        CHECK.noSuch(NEW, "bestFor(0)", x -> x.bestFor(0));
        CHECK.noSuch(NEW.duty(), "put(0, 0)", x -> x.put(0, 0));
    }

    private static void newWithoutDuties() {
        CHECK.onlyAsks(NEW, "count(1)", 0, x -> x.count(1));
        CHECK.onlyAsks(NEW, "pay()", 0, x -> x.pay());
        CHECK.onlyAsks(NEW, "use()", 0, x -> Double.doubleToLongBits(x.use()));
        CHECK.onlyAsks(NEW, "improve()", 0, x -> x.improve());
        CHECK.onlyAsks(NEW, "fill(0)", 0, x -> x.fill(0));
        CHECK.noSuch(NEW, "duty(0, 0)", x -> x.duty(0, 0));
        CHECK.noSuch(NEW, "tripAt(0, 0)", x -> x.tripAt(0, 0));
        CHECK.noSuch(NEW, "swap(0, 1, 0)", x -> x.swap(0, 1, 0));
        CHECK.noSuch(NEW.trips(5, 6), "put(0, 0)", x -> x.put(0, 0));
        CHECK.noSuch(NEW.drivers(1), "give(0, 0, 0)", x -> x.give(0, 0, 0));
    }

    private static void newWithoutDrivers() {
        CHECK.onlyAsks(NEW, "count(2)", 0, x -> x.count(2));
        CHECK.noSuch(NEW, "week(0)", x -> x.week(0));
        CHECK.noSuch(NEW, "given(0, 0)", x -> x.given(0, 0));
        CHECK.noSuch(NEW, "rest(0, 1)", x -> x.rest(0, 1));
        CHECK.noSuch(NEW, "takeBack(0, 0)", x -> x.takeBack(0, 0));
        CHECK.noSuch(NEW.dutyOf(5, 6), "reason(0, 0, 0)", x -> x.reason(0, 0, 0));
        CHECK.noSuch(NEW.dutyOf(5, 6), "give(0, 0, 0)", x -> x.give(0, 0, 0));
    }

    // ---- promise 2

    private static void setWayAnswers() {
        CHECK.answer(NEW, "the first time", 15, x -> x.setWay(0, 5, 1));
        CHECK.answer(NEW.way(0, 5, 1), "behind the least", 1, x -> x.setWay(0, 5, 90));
        CHECK.answer(NEW.way(0, 5, 90), "behind the most", 90, x -> x.setWay(0, 5, 90));
        CHECK.answer(NEW.way(0, 5, 90), "the other way", 90, x -> x.setWay(5, 0, 1));
        CHECK.answer(NEW.way(0, 5, 90), "another one", 15, x -> x.setWay(0, 4, 1));
        CHECK.answer(NEW.way(0, 5, 90).way(5, 0, 2).way(0, 5, 3), "behind three", 3,
                x -> x.setWay(0, 5, 4));
    }

    private static void setWayNoPoint() {
        for (int point : NO_POINTS) {
            CHECK.noSuch(MIXED, "setWay(" + point + ", 1, 20)", x -> x.setWay(point, 1, 20));
            CHECK.noSuch(MIXED, "setWay(1, " + point + ", 20)", x -> x.setWay(1, point, 20));
            CHECK.noSuch(MIXED, "setWay(p, p, 20), p " + point, x -> x.setWay(point, point, 20));
            CHECK.noSuch(MIXED, "setWay(1, " + point + ", 91)", x -> x.setWay(1, point, 91));
        }
        CHECK.answer(NEW, "setWay(0, 5, 20)", 15, x -> x.setWay(0, 5, 20));
    }

    private static void setWaySame() {
        for (int point = 0; point <= 5; point++) {
            int p = point;
            CHECK.badArgument(MIXED, "setWay(p, p, 20), p " + p, x -> x.setWay(p, p, 20));
            // The way to itself is still 0: the trip at the point begins as it did.
            Recipe tried = NEW.then(x -> Check.outcome(() -> x.setWay(p, p, 20)));
            CHECK.answer(tried.trip(p, p, 100, 200).trip(p, p, 200, 210).duty(0), "put", 1,
                    x -> x.put(0, 1));
        }
    }

    private static void setWayMinutes() {
        for (int minutes : new int[] {0, 91, -1, MIN, MAX}) {
            CHECK.badArgument(MIXED, "setWay(0, 1, " + minutes + ")",
                    x -> x.setWay(0, 1, minutes));
            CHECK.badArgument(MIXED, "setWay(5, 4, " + minutes + ")",
                    x -> x.setWay(5, 4, minutes));
        }
        CHECK.answer(NEW.way(1, 2, 1), "a way of 1", 1, x -> x.setWay(1, 2, 20));
        CHECK.answer(NEW.way(1, 2, 90), "a way of 90", 90, x -> x.setWay(1, 2, 20));
        CHECK.answer(NEW.way(0, 1, 1).trip(1, 1, 100, 200).duty(0), "begin", 89,
                x -> x.duty(0, 1));
        CHECK.answer(NEW.way(0, 1, 90).trip(1, 1, 100, 150).duty(0), "begin", 0,
                x -> x.duty(0, 1));
    }

    // ---- promise 3

    private static void addTripAnswers() {
        CHECK.answer(NEW, "the first one", 0, x -> x.addTrip(0, 0, 100, 200));
        CHECK.answer(NEW.trips(100, 200), "the same once more", 1,
                x -> x.addTrip(0, 0, 100, 200));
        CHECK.answer(NEW.tripsInARow(0, 39), "the last one", 39, x -> x.addTrip(0, 0, 100, 200));
        Recipe refused = NEW.trips(100, 200)
                .then(x -> Check.outcome(() -> x.addTrip(0, 0, 200, 200)));
        CHECK.answer(refused, "a refused one has no number", 1, x -> x.addTrip(0, 0, 100, 200));
    }

    private static void addTripNoPoint() {
        for (int point : NO_POINTS) {
            CHECK.noSuch(MIXED, "addTrip from " + point, x -> x.addTrip(point, 0, 10, 20));
            CHECK.noSuch(MIXED, "addTrip to " + point, x -> x.addTrip(0, point, 10, 20));
            CHECK.noSuch(MIXED, "addTrip from and to " + point,
                    x -> x.addTrip(point, point, 10, 20));
            CHECK.noSuch(MIXED, "addTrip to " + point + ", and wrong times",
                    x -> x.addTrip(0, point, -1, 2000));
        }
        CHECK.answer(NEW, "addTrip(0, 5, ..)", 0, x -> x.addTrip(0, 5, 10, 20));
        CHECK.answer(NEW, "addTrip(5, 0, ..)", 0, x -> x.addTrip(5, 0, 10, 20));
    }

    private static void departureLessThan0() {
        for (int departure : new int[] {-1, -240, MIN}) {
            CHECK.badArgument(MIXED, "departure " + departure,
                    x -> x.addTrip(1, 2, departure, 1));
            CHECK.badArgument(MIXED, "departure " + departure + ", and a minute more",
                    x -> x.addTrip(1, 2, departure, departure + 1));
        }
        CHECK.answer(NEW, "departure 0", 0, x -> x.addTrip(1, 2, 0, 1));
        CHECK.answer(NEW.trip(1, 2, 0, 1), "trip(0, 2)", 0, x -> x.trip(0, 2));
    }

    private static void arrivalNotGreater() {
        int[][] refused = {{100, 100}, {100, 99}, {0, 0}, {0, -1}, {1799, 1799}, {100, MIN},
            {MAX, MIN}, {MAX, MAX}};
        for (int[] times : refused) {
            CHECK.badArgument(MIXED, times[0] + " to " + times[1],
                    x -> x.addTrip(1, 2, times[0], times[1]));
        }
        CHECK.answer(NEW, "100 to 101", 0, x -> x.addTrip(1, 2, 100, 101));
        CHECK.answer(NEW.trip(1, 2, 100, 101), "trip(0, 3)", 101, x -> x.trip(0, 3));
    }

    private static void moreThan240Greater() {
        int[][] refused = {{0, 241}, {100, 341}, {1558, 1799}, {0, 1799}};
        for (int[] times : refused) {
            CHECK.badArgument(MIXED, times[0] + " to " + times[1],
                    x -> x.addTrip(1, 2, times[0], times[1]));
        }
        CHECK.answer(NEW, "0 to 240", 0, x -> x.addTrip(1, 2, 0, 240));
        CHECK.answer(NEW, "100 to 340", 0, x -> x.addTrip(1, 2, 100, 340));
        CHECK.answer(NEW, "1559 to 1799", 0, x -> x.addTrip(1, 2, 1559, 1799));
    }

    private static void arrivalAbove1799() {
        int[][] refused = {{1700, 1800}, {1799, 1800}, {1800, 1801}, {1799, MAX}, {MAX - 1, MAX},
            {0, MAX}, {MIN, MAX}};
        for (int[] times : refused) {
            CHECK.badArgument(MIXED, times[0] + " to " + times[1],
                    x -> x.addTrip(1, 2, times[0], times[1]));
        }
        CHECK.answer(NEW, "1700 to 1799", 0, x -> x.addTrip(1, 2, 1700, 1799));
        CHECK.answer(NEW.trip(1, 2, 1798, 1799), "trip(0, 3)", 1799, x -> x.trip(0, 3));
    }

    private static void fortyTrips() {
        CHECK.answer(NEW.tripsInARow(0, 39), "the 40th", 39, x -> x.addTrip(5, 4, 1700, 1799));
        CHECK.badState(NEW.tripsInARow(0, 40), "the 41st", x -> x.addTrip(5, 4, 1700, 1799));
        CHECK.answer(NEW.tripsInARow(0, 40), "count(0)", 40, x -> x.count(0));
        Recipe inDuty = NEW.tripsInARow(0, 40).duty(0, 39);
        CHECK.badState(inDuty, "the 41st, some are in duties", x -> x.addTrip(5, 4, 1700, 1799));
        CHECK.badArgument(NEW.tripsInARow(0, 40), "wrong times are named before",
                x -> x.addTrip(5, 4, 1700, 1800));
        CHECK.noSuch(NEW.tripsInARow(0, 40), "no such point is named before",
                x -> x.addTrip(6, 4, 1700, 1799));
    }

    // ---- promise 4

    private static void tripInNoDuty() {
        Recipe two = NEW.trips(100, 200, 300, 400).duty(1);
        CHECK.onlyAsks(two, "trip(0, 4)", -1, x -> x.trip(0, 4));
        CHECK.onlyAsks(two, "trip(1, 4)", 0, x -> x.trip(1, 4));
        CHECK.answer(two.then(x -> x.takeOut(1)), "trip(1, 4), taken out", -1, x -> x.trip(1, 4));
        Recipe last = NEW.trips(100, 200).emptyDuties(11).duty(0);
        CHECK.answer(last, "trip(0, 4), the last duty", 11, x -> x.trip(0, 4));
    }

    private static void tripNoTrip() {
        for (int trip : new int[] {-1, 5, 40, MIN, MAX}) {
            for (int what = 0; what <= 4; what++) {
                int asked = what;
                CHECK.noSuch(MIXED, "trip(" + trip + ", " + what + ")", x -> x.trip(trip, asked));
            }
        }
        CHECK.answer(MIXED, "trip(4, 2)", 700, x -> x.trip(4, 2));
        CHECK.noSuch(NEW.tripsInARow(0, 40), "trip(40, 0)", x -> x.trip(40, 0));
        CHECK.answer(NEW.tripsInARow(0, 40), "trip(39, 3)", 395, x -> x.trip(39, 3));
    }

    private static void tripNoWhat() {
        for (int what : new int[] {-1, 5, MIN, MAX}) {
            CHECK.noSuch(MIXED, "trip(0, " + what + ")", x -> x.trip(0, what));
        }
        CHECK.answer(MIXED, "trip(2, 0)", 0, x -> x.trip(2, 0));
        CHECK.answer(MIXED, "trip(2, 4)", 1, x -> x.trip(2, 4));
    }

    // ---- promise 5

    private static void rulesAnswer() {
        CHECK.answer(NEW, "no duties", 0, x -> x.setRules(60, 240, 10, 0));
        CHECK.answer(NEW.emptyDuties(12), "duties without trips", 0,
                x -> x.setRules(60, 240, 10, 0));
        Recipe full = NEW;
        for (int duty = 0; duty < 12; duty++) {
            full = full.dutyOf(100 + duty, 200 + duty);
        }
        CHECK.answer(full, "none of 12", 0, x -> x.setRules(100, 240, 10, 0));
        CHECK.answer(full, "all of 12", 12, x -> x.setRules(99, 240, 10, 0));
        CHECK.answer(full.rules(60, 240, 10, 0), "right again", 0,
                x -> x.setRules(100, 240, 10, 0));
        CHECK.answer(NEW.dutyOf(100, 200).dutyOf(100, 201), "one of two", 1,
                x -> x.setRules(100, 240, 10, 0));
    }

    /**
     * Each rule is just kept and just not kept by something of this desk, with driving 200, spread
     * 500, a least break of 40 and a least rest of 600: so a look at it shows each change of them.
     */
    private static Recipe pinned() {
        return NEW.rules(200, 500, 40, 600)
                .trips(100, 110, 110, 300, 110, 301).duty(0)
                .trips(575, 585, 575, 586)
                .trips(100, 110, 150, 160).duty(5, 6)
                .trips(100, 110, 149, 160).duty(7, 8)
                .dutyOf(1100, 1225).dutyOf(1100, 1226).dutyOf(400, 500)
                .drivers(2).give(0, 3, 0).give(1, 4, 0);
    }

    private static void refuseRules(int driving, int spread, int pause, int rest) {
        CHECK.badArgument(pinned(), "setRules " + driving + ", " + spread + ", " + pause + ", "
                + rest, x -> x.setRules(driving, spread, pause, rest));
    }

    private static void rulesDriving() {
        for (int driving : new int[] {59, 601, 0, -1, MIN, MAX}) {
            refuseRules(driving, 500, 40, 600);
            refuseRules(driving, 400, 50, 500);
        }
        dueRules(60, 500, 40, 600);
        dueRules(600, 1000, 40, 600);
    }

    private static void rulesSpread() {
        for (int spread : new int[] {239, 1001, 0, -1, MIN, MAX}) {
            refuseRules(200, spread, 40, 600);
            refuseRules(100, spread, 50, 500);
        }
        dueRules(100, 240, 40, 600);
        dueRules(100, 1000, 40, 600);
    }

    private static void rulesPause() {
        for (int pause : new int[] {9, 91, 0, -1, MIN, MAX}) {
            refuseRules(200, 500, pause, 600);
            refuseRules(100, 400, pause, 500);
        }
        dueRules(100, 500, 10, 600);
        dueRules(100, 500, 90, 600);
    }

    private static void rulesRest() {
        for (int rest : new int[] {-1, 901, -2, MIN, MAX}) {
            refuseRules(200, 500, 40, rest);
            refuseRules(100, 400, 50, rest);
        }
        dueRules(100, 500, 40, 0);
        dueRules(100, 500, 40, 900);
    }

    /** A desk keeps exactly these rules: what is at a limit is allowed, what is beyond it not. */
    private static void dueRules(int driving, int spread, int pause, int rest) {
        String of = " of " + driving + ", " + spread + ", " + pause + ", " + rest;
        Recipe rules = NEW.rules(driving, spread, pause, rest);
        dueDriving(rules, driving, of);
        Recipe wide = rules.trips(100, 110, spread + 75, spread + 85, spread + 75, spread + 86)
                .duty(0);
        CHECK.answer(wide, "put at the spread limit" + of, 1, x -> x.put(0, 1));
        CHECK.badState(wide, "put above the spread limit" + of, x -> x.put(0, 2));
        Recipe idle = rules.trips(100, 110, 110 + pause, 120 + pause).duty(0, 1);
        CHECK.answer(idle, "breaks at the least break" + of, 1, x -> x.duty(0, 5));
        Recipe less = rules.trips(100, 110, 109 + pause, 120 + pause).duty(0, 1);
        CHECK.answer(less, "breaks below the least break" + of, 0, x -> x.duty(0, 5));
        int begin = rest < 300 ? 90 : 390;
        int end = begin + 1440 - rest;
        Recipe rested = rules.dutyOf(end - 55, end - 5).dutyOf(end - 55, end - 4)
                .dutyOf(begin + 10, begin + 60).drivers(2).give(0, 0, 0).give(1, 1, 0);
        CHECK.answer(rested, "reason at the least rest" + of, 0, x -> x.reason(0, 1, 2));
        CHECK.answer(rested, "reason below the least rest" + of, 7, x -> x.reason(1, 1, 2));
    }

    private static void dueDriving(Recipe rules, int driving, String of) {
        // All but the last 20 minutes are driven in trips of at most 240 minutes.
        Recipe most = rules.duty();
        int trip = 0;
        int time = 100;
        for (int left = driving - 20; left > 0; left -= 240) {
            int from = time;
            int to = time + Math.min(left, 240);
            int number = trip;
            most = most.trips(from, to).then(x -> x.put(0, number));
            time = to;
            trip++;
        }
        int next = trip;
        Recipe both = most.trips(time, time + 20, time, time + 21);
        CHECK.answer(both, "driving" + of, driving - 20, x -> x.duty(0, 6));
        CHECK.answer(both, "put at the driving limit" + of, next, x -> x.put(0, next));
        CHECK.badState(both, "put above the driving limit" + of, x -> x.put(0, next + 1));
    }

    // ---- promise 6

    private static void countEmptyAndFull() {
        Recipe full = NEW.tripsInARow(0, 40).emptyDuties(12).drivers(8);
        int[] due = {40, 12, 8, 40};
        for (int what = 0; what <= 3; what++) {
            int asked = what;
            CHECK.onlyAsks(NEW, "count(" + what + ") of none", 0, x -> x.count(asked));
            CHECK.onlyAsks(full, "count(" + what + ") of all", due[what], x -> x.count(asked));
        }
        Recipe allIn = NEW.trips(100, 110, 200, 210).duty(0).duty(1);
        CHECK.answer(allIn, "count(3), all are in duties", 0, x -> x.count(3));
        CHECK.answer(allIn, "count(0)", 2, x -> x.count(0));
        CHECK.answer(allIn.then(x -> x.takeOut(0)), "count(3), one is out", 1, x -> x.count(3));
    }

    private static void countNoWhat() {
        for (int what : new int[] {-1, 4, MIN, MAX}) {
            CHECK.noSuch(MIXED, "count(" + what + ")", x -> x.count(what));
        }
        CHECK.answer(MIXED, "count(0)", 5, x -> x.count(0));
        CHECK.answer(MIXED, "count(3)", 1, x -> x.count(3));
    }
}
