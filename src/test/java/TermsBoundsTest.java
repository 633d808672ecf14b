/** The boundary cases of "What it is" and "Terms", a test for each sentence of the document. */
public final class TermsBoundsTest {

    private static final Check CHECK = new Check("TermsBoundsTest");
    private static final Recipe WIDE = Recipe.wide();

    public static void main(String[] args) {
        CHECK.test("An object is used for at most 512 calls", () -> callsUpTo512());
        CHECK.test("1440 and more is behind midnight", () -> behindMidnight());
        CHECK.test("What is said to be divided is cut towards 0", () -> cutTowards0());
        CHECK.test("There are 6 points, 0 to 5", () -> sixPoints());
        CHECK.test("the depot is 0", () -> depotIs0());
        CHECK.test("the same both ways", () -> sameBothWays());
        CHECK.test("15, at first", () -> fifteenAtFirst());
        CHECK.test("from a point to itself it takes 0", () -> toItself());
        CHECK.test("it can be the same one", () -> tripToTheSamePoint());
        CHECK.test("numbered from 0 in the order of their creation", () -> numberedFrom0());
        CHECK.test("in ascending order of their departures", () -> ascendingDepartures());
        CHECK.test("a trip is in at most one duty", () -> inAtMostOneDuty());
        CHECK.test("idle time: .. less the way between", () -> idleTimeLessTheWay());
        CHECK.test("It is a break, if it is at least the least break", () -> breakOfLeast());
        CHECK.test("A stretch is a longest row of trips without a break", () -> longestRow());
        CHECK.test("from the trip before, or from the depot, if there is none", () -> wayAhead());
        CHECK.test("if there is no stretch behind it .. to the depot", () -> wayHome());
        CHECK.test("this can be less than 0", () -> beginLessThan0());
        CHECK.test("it ends 5 minutes .. behind its last arrival", () -> endBehindAll());
        CHECK.test("Its work is its spread, less all its breaks", () -> workLessBreaks());
        CHECK.test("Its pay is its work, but at least 360", () -> payAtLeast360());
        CHECK.test("and half of what its work is more than 480", () -> halfAbove480());
        CHECK.test("A duty without trips begins and ends at 0", () -> dutyWithoutTrips());
        CHECK.test("right, if no idle time is less than 0", () -> idleLessThan0());
        CHECK.test("the driving of each stretch is at most the limit", () -> drivingLimit());
        CHECK.test("the driving limit (270, at first)", () -> drivingLimitAtFirst());
        CHECK.test("its spread at most the spread limit", () -> spreadLimit());
        CHECK.test("the spread limit (720, at first)", () -> spreadLimitAtFirst());
        CHECK.test("The least break is 30, at first", () -> leastBreakAtFirst());
        CHECK.test("On each of the days 0 to 6", () -> daysOfTheWeek());
        CHECK.test("if it has trips", () -> hasTrips());
        CHECK.test("and is right", () -> isRight());
        CHECK.test("no driver has it on this day", () -> noDriverHasIt());
        CHECK.test("the driver has none on this day", () -> driverHasNone());
        CHECK.test("not have duties on 6 days one behind the other", () -> sixDays());
        CHECK.test("all pay in the week would be at most 2880", () -> weekOf2880());
        CHECK.test("if it has a duty on the day before .. the least rest", () -> restBefore());
        CHECK.test("likewise with a duty on the day behind", () -> restBehind());
        CHECK.test("the least rest (660, at first)", () -> leastRestAtFirst());
        CHECK.test("A duty that a driver has on some day is fixed", () -> fixedOnSomeDay());
        CHECK.test("its trips cannot be changed", () -> fixedTripsStay());
        CHECK.test("When ways are set, all stays as it is", () -> waysLeaveAll());
        CHECK.test("When rules are set, all stays as it is", () -> rulesLeaveAll());
        CHECK.test("A method that throws .. changes nothing", () -> throwsChangeNothing());
        CHECK.test("If several exceptions apply, the first is thrown", () -> firstException());
        CHECK.end();
    }

    // ---- calls, time and points

    private static void callsUpTo512() {
        DutyDesk x = new DutyDesk();
        x.addTrip(0, 0, 100, 200);
        x.addDuty();
        for (int call = 3; call <= 511; call += 2) {
            CHECK.due("call " + call + ", put(0, 0)", x.put(0, 0), 0);
            CHECK.due("call " + (call + 1) + ", takeOut(0)", x.takeOut(0), 0);
        }
        DutyDesk y = new DutyDesk();
        for (int call = 1; call <= 511; call++) {
            Check.outcome(() -> y.addTrip(6, 0, 0, 1));
        }
        CHECK.due("call 512 behind 511 refused ones", y.addTrip(0, 0, 0, 1), 0);
        DutyDesk z = new DutyDesk();
        for (int call = 1; call <= 511; call++) {
            z.count(0);
        }
        CHECK.due("call 512 is refused", Check.outcome(() -> z.count(4)),
                IndexOutOfBoundsException.class.getName());
    }

    private static void behindMidnight() {
        Recipe night = WIDE.trips(1430, 1439, 1440, 1441, 1450, 1500, 100, 110).dutyOf(100, 110)
                .duty(0, 2, 1);
        DutyDesk x = night.drivers(1).give(0, 1, 0).give(0, 0, 1).make();
        CHECK.row("trips round midnight", x, 1, 0, 1, 2);
        CHECK.due("begin ahead of midnight", x.duty(1, 1), 1420);
        CHECK.due("end behind midnight", x.duty(1, 2), 1505);
        CHECK.due("work over midnight", x.duty(1, 3), 85);
        CHECK.due("rest from behind midnight", x.rest(0, 1), 90 + 1440 - 1505);
        CHECK.answer(new Recipe(), "addTrip from 1440", 0, y -> y.addTrip(0, 0, 1440, 1500));
        Recipe apart = WIDE.trips(0, 10, 1440, 1450).duty(1).rules(600, 240, 30, 0);
        CHECK.badState(apart, "1440 is not 0 again", z -> z.put(0, 0));
    }

    private static void cutTowards0() {
        int[][] workAndPay = {{481, 481}, {483, 484}, {485, 487}, {615, 682}};
        for (int[] due : workAndPay) {
            CHECK.answer(WIDE.dutyOfWork(due[0]), "pay of work " + due[0], due[1],
                    x -> x.duty(0, 4));
        }
    }

    private static void sixPoints() {
        for (int point = 0; point <= 5; point++) {
            int p = point;
            CHECK.answer(new Recipe(), "addTrip from " + p, 0, x -> x.addTrip(p, 0, 10, 20));
            CHECK.answer(new Recipe(), "addTrip to " + p, 0, x -> x.addTrip(0, p, 10, 20));
            CHECK.answer(new Recipe(), "setWay of " + p, 15, x -> x.setWay(p, (p + 1) % 6, 20));
        }
        CHECK.noSuch(new Recipe(), "addTrip from 6", x -> x.addTrip(6, 0, 10, 20));
        CHECK.noSuch(new Recipe(), "addTrip from -1", x -> x.addTrip(-1, 0, 10, 20));
    }

    private static void depotIs0() {
        DutyDesk x = WIDE.way(0, 1, 11).way(0, 2, 22).way(1, 2, 33).way(5, 1, 44).way(5, 2, 55)
                .trip(1, 2, 100, 200).duty(0).make();
        CHECK.due("begin", x.duty(0, 1), 100 - 11 - 10);
        CHECK.due("end", x.duty(0, 2), 200 + 22 + 5);
        CHECK.due("driving", x.duty(0, 6), 11 + 100 + 22);
        DutyDesk y = WIDE.trips(100, 200).duty(0).make();
        CHECK.due("begin at the depot", y.duty(0, 1), 90);
        CHECK.due("end at the depot", y.duty(0, 2), 205);
    }

    private static void sameBothWays() {
        Recipe there = WIDE.way(2, 4, 50);
        CHECK.answer(there, "setWay(4, 2, 9)", 50, x -> x.setWay(4, 2, 9));
        CHECK.answer(there, "setWay(2, 4, 9)", 50, x -> x.setWay(2, 4, 9));
        Recipe forth = there.trip(0, 2, 100, 200).trip(4, 0, 250, 300).trip(4, 0, 249, 300).duty(0);
        CHECK.answer(forth, "put behind a way of 50", 1, x -> x.put(0, 1));
        CHECK.badState(forth, "put behind a way of 50, too early", x -> x.put(0, 2));
        Recipe back = there.trip(0, 4, 100, 200).trip(2, 0, 250, 300).trip(2, 0, 249, 300).duty(0);
        CHECK.answer(back, "put behind a way back of 50", 1, x -> x.put(0, 1));
        CHECK.badState(back, "put behind a way back of 50, too early", x -> x.put(0, 2));
    }

    private static void fifteenAtFirst() {
        for (int a = 0; a < 6; a++) {
            for (int b = 0; b < 6; b++) {
                if (a != b) {
                    int from = a;
                    int to = b;
                    CHECK.answer(new Recipe(), "setWay(" + a + ", " + b + ", 20)", 15,
                            x -> x.setWay(from, to, 20));
                }
            }
        }
    }

    private static void toItself() {
        for (int point = 0; point < 6; point++) {
            Recipe two = WIDE.trip(point, point, 100, 200).trip(point, point, 200, 300).duty(0);
            int wayOut = point == 0 ? 0 : 15;
            CHECK.answer(two, "put behind a way of 0", 1, x -> x.put(0, 1));
            CHECK.answer(two.then(x -> x.put(0, 1)), "driving", 200 + 2 * wayOut,
                    x -> x.duty(0, 6));
            CHECK.answer(two, "begin", 90 - wayOut, x -> x.duty(0, 1));
            CHECK.answer(two, "end", 205 + wayOut, x -> x.duty(0, 2));
        }
    }

    // ---- trips and duties

    private static void tripToTheSamePoint() {
        for (int point = 0; point < 6; point++) {
            int p = point;
            CHECK.answer(new Recipe(), "addTrip(p, p, ..)", 0, x -> x.addTrip(p, p, 10, 20));
            CHECK.answer(new Recipe().trip(p, p, 10, 20), "trip(0, 0)", p, x -> x.trip(0, 0));
            CHECK.answer(new Recipe().trip(p, p, 10, 20), "trip(0, 1)", p, x -> x.trip(0, 1));
        }
    }

    private static void numberedFrom0() {
        DutyDesk x = new DutyDesk();
        for (int number = 0; number < 3; number++) {
            int departure = 300 - 100 * number;
            CHECK.due("addTrip", x.addTrip(0, 0, departure, departure + 50), number);
            CHECK.due("trip(.., 2)", x.trip(number, 2), departure);
            CHECK.due("addDuty", x.addDuty(), number);
            CHECK.due("addDriver", x.addDriver(), number);
        }
        x.put(1, 0);
        CHECK.due("addDuty behind one with trips", x.addDuty(), 3);
    }

    private static void ascendingDepartures() {
        int[][] orders = {{0, 1, 2}, {0, 2, 1}, {1, 0, 2}, {1, 2, 0}, {2, 0, 1}, {2, 1, 0}};
        for (int[] order : orders) {
            DutyDesk x = WIDE.trips(201, 202, 0, 1, 200, 201).duty(order).make();
            CHECK.row("a row", x, 0, 1, 2, 0);
        }
    }

    private static void inAtMostOneDuty() {
        Recipe two = WIDE.trips(100, 110, 200, 210, 300, 310, 400, 410).duty(0, 1).duty(2, 3)
                .duty();
        CHECK.badState(two, "put into another duty", x -> x.put(2, 0));
        CHECK.badState(two, "put into its duty", x -> x.put(0, 0));
        DutyDesk swapped = two.then(x -> x.swap(0, 1, 200)).make();
        CHECK.row("after swap", swapped, 0, 0, 2, 3);
        CHECK.row("after swap", swapped, 1, 1);
        DutyDesk moved = two.then(x -> x.takeOut(1)).then(x -> x.put(2, 1)).make();
        CHECK.row("after takeOut and put", moved, 0, 0);
        CHECK.row("after takeOut and put", moved, 2, 1);
        DutyDesk planned = two.then(x -> x.plan()).make();
        CHECK.row("after plan", planned, 0, 0, 1);
        CHECK.row("after plan", planned, 1, 2, 3);
        CHECK.row("after plan", planned, 2);
    }

    private static void idleTimeLessTheWay() {
        int[] departures = {239, 240, 269, 270};
        int[] breaks = {-1, 0, 0, 1};
        for (int i = 0; i < departures.length; i++) {
            Recipe two = WIDE.way(1, 2, 40).trip(0, 1, 100, 200).trip(2, 0, departures[i], 300)
                    .duty(0);
            if (breaks[i] < 0) {
                CHECK.badState(two, "put with an idle time of -1", x -> x.put(0, 1));
            } else {
                CHECK.answer(two.then(x -> x.put(0, 1)), "breaks, departure " + departures[i],
                        breaks[i], x -> x.duty(0, 5));
            }
        }
    }

    private static void breakOfLeast() {
        for (int pause : new int[] {10, 30, 31, 90}) {
            for (int idle = pause - 1; idle <= pause + 1; idle++) {
                Recipe two = WIDE.rules(600, 1000, pause, 0)
                        .trips(100, 200, 200 + idle, 300 + idle).duty(0, 1);
                boolean isBreak = idle >= pause;
                String call = ", idle time " + idle + ", least break " + pause;
                CHECK.answer(two, "breaks" + call, isBreak ? 1 : 0, x -> x.duty(0, 5));
                CHECK.answer(two, "driving" + call, isBreak ? 100 : 200, x -> x.duty(0, 6));
                CHECK.answer(two, "work" + call, isBreak ? 215 : 215 + idle, x -> x.duty(0, 3));
            }
        }
    }

    private static void longestRow() {
        Recipe four = WIDE.trips(100, 110, 139, 149, 179, 189, 218, 228).duty(0, 1, 2, 3);
        CHECK.answer(four, "breaks", 1, x -> x.duty(0, 5));
        CHECK.answer(four, "driving of two rows of two", 20, x -> x.duty(0, 6));
        Recipe noBreak = four.rules(600, 1000, 31, 0);
        CHECK.answer(noBreak, "breaks", 0, x -> x.duty(0, 5));
        CHECK.answer(noBreak, "driving of one row", 40, x -> x.duty(0, 6));
        Recipe allBreaks = four.rules(600, 1000, 29, 0);
        CHECK.answer(allBreaks, "breaks", 3, x -> x.duty(0, 5));
        CHECK.answer(allBreaks, "driving of rows of one", 10, x -> x.duty(0, 6));
    }

    private static void wayAhead() {
        Recipe first = WIDE.way(0, 3, 70).trip(3, 0, 100, 200).trips(300, 310).duty(0, 1);
        CHECK.answer(first, "driving: from the depot", 170, x -> x.duty(0, 6));
        Recipe second = WIDE.way(1, 2, 60).way(0, 2, 50).trip(0, 1, 100, 120).trip(2, 0, 300, 400)
                .duty(0, 1);
        CHECK.answer(second, "driving: from the trip before, behind a break", 160,
                x -> x.duty(0, 6));
        Recipe between = WIDE.way(1, 2, 60).trip(0, 1, 100, 120).trip(2, 0, 190, 290).duty(0, 1);
        CHECK.answer(between, "driving: a way between", 20 + 60 + 100, x -> x.duty(0, 6));
    }

    private static void wayHome() {
        Recipe behind = WIDE.way(0, 1, 80).trip(0, 1, 100, 300).trip(1, 0, 400, 410).duty(0, 1);
        CHECK.answer(behind, "driving: a stretch is behind it", 200, x -> x.duty(0, 6));
        Recipe last = WIDE.way(0, 1, 80).trips(100, 110).trip(0, 1, 200, 300).duty(0, 1);
        CHECK.answer(last, "driving: no stretch is behind it", 180, x -> x.duty(0, 6));
        Recipe only = WIDE.way(0, 1, 80).trip(1, 1, 100, 150).duty(0);
        CHECK.answer(only, "driving: the only stretch", 210, x -> x.duty(0, 6));
    }

    private static void beginLessThan0() {
        Recipe early = WIDE.way(0, 1, 90).trip(1, 0, 0, 50).duty(0);
        CHECK.answer(early, "begin", -100, x -> x.duty(0, 1));
        CHECK.answer(early, "end", 55, x -> x.duty(0, 2));
        CHECK.answer(early, "work", 155, x -> x.duty(0, 3));
        CHECK.answer(early, "it is right", 1, x -> x.duty(0, 7));
        CHECK.answer(early.drivers(1), "reason", 0, x -> x.reason(0, 1, 0));
        CHECK.answer(WIDE.trips(9, 20).duty(0), "begin", -1, x -> x.duty(0, 1));
        CHECK.answer(WIDE.trips(10, 20).duty(0), "begin", 0, x -> x.duty(0, 1));
    }

    private static void endBehindAll() {
        Recipe late = WIDE.way(0, 1, 90).trip(0, 1, 1700, 1799).duty(0);
        CHECK.answer(late, "end", 1799 + 90 + 5, x -> x.duty(0, 2));
        CHECK.answer(late, "it is right", 1, x -> x.duty(0, 7));
        CHECK.answer(WIDE.trips(0, 1).duty(0), "end", 6, x -> x.duty(0, 2));
    }

    private static void workLessBreaks() {
        Recipe three = WIDE.trips(100, 110, 140, 150, 179, 189, 289, 299).duty(0, 1, 2, 3);
        CHECK.answer(three, "breaks of 30 and 100", 2, x -> x.duty(0, 5));
        CHECK.answer(three, "work", 299 + 5 - 90 - 30 - 100, x -> x.duty(0, 3));
        CHECK.answer(WIDE.trips(100, 110).duty(0), "work without breaks", 25, x -> x.duty(0, 3));
    }

    private static void payAtLeast360() {
        int[][] workAndPay = {{16, 360}, {359, 360}, {360, 360}, {361, 361}};
        for (int[] due : workAndPay) {
            Recipe one = WIDE.dutyOfWork(due[0]);
            CHECK.answer(one, "work", due[0], x -> x.duty(0, 3));
            CHECK.answer(one, "pay of work " + due[0], due[1], x -> x.duty(0, 4));
        }
    }

    private static void halfAbove480() {
        int[][] workAndPay = {{479, 479}, {480, 480}, {482, 483}, {484, 486}, {600, 660}};
        for (int[] due : workAndPay) {
            Recipe one = WIDE.dutyOfWork(due[0]);
            CHECK.answer(one, "work", due[0], x -> x.duty(0, 3));
            CHECK.answer(one, "pay of work " + due[0], due[1], x -> x.duty(0, 4));
        }
    }

    private static void dutyWithoutTrips() {
        Recipe emptied = WIDE.way(0, 1, 90).trip(1, 1, 0, 50).duty(0).then(x -> x.takeOut(0));
        for (Recipe recipe : new Recipe[] {new Recipe().duty(), emptied}) {
            for (int what = 0; what < 9; what++) {
                int asked = what;
                CHECK.answer(recipe, "duty(0, " + what + ")", what == 7 ? 1 : 0,
                        x -> x.duty(0, asked));
            }
            CHECK.answer(recipe, "pay()", 0, x -> x.pay());
            CHECK.answer(recipe, "setRules: it stays right", 0, x -> x.setRules(60, 240, 10, 900));
        }
    }

    // ---- what is right

    private static void idleLessThan0() {
        Recipe two = WIDE.trip(0, 1, 100, 200).trip(2, 0, 240, 300).trip(1, 0, 199, 250).duty(0, 1);
        CHECK.answer(two.way(1, 2, 40), "right with an idle time of 0", 1, x -> x.duty(0, 7));
        CHECK.answer(two.way(1, 2, 41), "right with an idle time of -1", 0, x -> x.duty(0, 7));
        CHECK.answer(two.way(1, 2, 90), "right with an idle time of -50", 0, x -> x.duty(0, 7));
        CHECK.badState(two, "put with an idle time of -1", x -> x.put(0, 2));
    }

    private static void drivingLimit() {
        int[][] arrivals = {{200, 350, 550}, {150, 400, 550}, {150, 350, 600}};
        for (int[] arrival : arrivals) {
            Recipe three = WIDE.trips(100, arrival[0], 300, arrival[1], 500, arrival[2])
                    .duty(0, 1, 2);
            CHECK.answer(three, "driving", 100, x -> x.duty(0, 6));
            CHECK.answer(three.rules(100, 1000, 30, 0), "driving of the limit", 1,
                    x -> x.duty(0, 7));
            CHECK.answer(three.rules(99, 1000, 30, 0), "driving above the limit", 0,
                    x -> x.duty(0, 7));
        }
    }

    private static void drivingLimitAtFirst() {
        Recipe two = new Recipe().trips(100, 340, 340, 370, 340, 371).duty(0);
        CHECK.answer(two, "put with driving 270", 1, x -> x.put(0, 1));
        CHECK.badState(two, "put with driving 271", x -> x.put(0, 2));
    }

    private static void spreadLimit() {
        Recipe two = WIDE.way(0, 1, 20).way(0, 2, 30).trip(1, 0, 100, 110).trip(0, 2, 400, 410)
                .duty(0, 1);
        CHECK.answer(two.rules(600, 375, 30, 0), "spread of the limit", 1, x -> x.duty(0, 7));
        CHECK.answer(two.rules(600, 374, 30, 0), "spread above the limit", 0, x -> x.duty(0, 7));
        Recipe wide = WIDE.trips(100, 110, 1075, 1085, 1075, 1086).duty(0);
        CHECK.answer(wide, "put with spread 1000", 1, x -> x.put(0, 1));
        CHECK.badState(wide, "put with spread 1001", x -> x.put(0, 2));
    }

    private static void spreadLimitAtFirst() {
        Recipe two = new Recipe().trips(100, 200, 700, 805, 700, 806).duty(0);
        CHECK.answer(two, "put with spread 720", 1, x -> x.put(0, 1));
        CHECK.badState(two, "put with spread 721", x -> x.put(0, 2));
    }

    private static void leastBreakAtFirst() {
        Recipe of30 = new Recipe().trips(100, 200, 230, 300).duty(0, 1);
        CHECK.answer(of30, "an idle time of 30 is a break", 1, x -> x.duty(0, 5));
        Recipe of29 = new Recipe().trips(100, 200, 229, 300).duty(0, 1);
        CHECK.answer(of29, "an idle time of 29 is none", 0, x -> x.duty(0, 5));
    }

    // ---- duties of drivers

    private static void daysOfTheWeek() {
        Recipe one = WIDE.dutyOf(100, 200).drivers(1);
        for (int day = 0; day <= 6; day++) {
            int given = day;
            CHECK.answer(one, "give on day " + day, 360, x -> x.give(0, given, 0));
            CHECK.answer(one.give(0, 0, day), "given on day " + day, 0, x -> x.given(0, given));
        }
        CHECK.noSuch(one, "give on day -1", x -> x.give(0, -1, 0));
        CHECK.noSuch(one, "give on day 7", x -> x.give(0, 7, 0));
        // Day 0 is not behind day 6: there is no least rest between them, and no row of days.
        Recipe night = WIDE.dutyOf(1700, 1799).dutyOf(0, 10).drivers(1);
        CHECK.answer(night.give(0, 0, 6), "reason on day 0", 0, x -> x.reason(0, 0, 1));
        CHECK.answer(night.give(0, 1, 0), "reason on day 6", 0, x -> x.reason(0, 6, 0));
    }

    private static void hasTrips() {
        Recipe one = WIDE.trips(100, 101).duty().drivers(1);
        CHECK.badState(one, "give of a duty without trips", x -> x.give(0, 0, 0));
        CHECK.onlyAsks(one, "reason", 1, x -> x.reason(0, 0, 0));
        CHECK.answer(one.then(x -> x.put(0, 0)), "give of a duty with one trip", 360,
                x -> x.give(0, 0, 0));
    }

    private static void isRight() {
        Recipe one = WIDE.dutyOf(100, 200).drivers(1);
        CHECK.badState(one.rules(99, 1000, 30, 0), "give, not right", x -> x.give(0, 0, 0));
        CHECK.onlyAsks(one.rules(99, 1000, 30, 0), "reason", 2, x -> x.reason(0, 0, 0));
        CHECK.answer(one.rules(100, 1000, 30, 0), "give, right", 360, x -> x.give(0, 0, 0));
    }

    private static void noDriverHasIt() {
        for (int day : new int[] {0, 6}) {
            Recipe had = WIDE.dutyOf(100, 200).drivers(8).give(7, 0, day);
            CHECK.badState(had, "give of what driver 7 has", x -> x.give(0, day, 0));
            CHECK.onlyAsks(had, "reason", 3, x -> x.reason(0, day, 0));
            CHECK.answer(had, "give on another day", 360, x -> x.give(0, 3, 0));
        }
    }

    private static void driverHasNone() {
        for (int day : new int[] {0, 6}) {
            Recipe has = WIDE.dutyOf(100, 200).dutyOf(300, 400).drivers(2).give(0, 0, day);
            CHECK.badState(has, "give to one who has one", x -> x.give(0, day, 1));
            CHECK.onlyAsks(has, "reason", 4, x -> x.reason(0, day, 1));
            CHECK.answer(has, "give to another", 360, x -> x.give(1, day, 1));
        }
    }

    private static void sixDays() {
        Recipe one = WIDE.dutyOf(100, 200).drivers(1);
        CHECK.answer(one.give(0, 0, 0, 1, 2, 3), "the fifth day", 1800, x -> x.give(0, 4, 0));
        CHECK.badState(one.give(0, 0, 0, 1, 2, 3, 4), "the sixth, behind", x -> x.give(0, 5, 0));
        CHECK.badState(one.give(0, 0, 1, 2, 3, 4, 5), "the sixth, ahead", x -> x.give(0, 0, 0));
        CHECK.badState(one.give(0, 0, 1, 2, 3, 5, 6), "the sixth, between", x -> x.give(0, 4, 0));
        CHECK.badState(one.give(0, 0, 0, 1, 2, 4, 5, 6), "the seventh", x -> x.give(0, 3, 0));
        CHECK.answer(one.give(0, 0, 0, 1, 2, 4, 5), "six days, not in a row", 2160,
                x -> x.give(0, 6, 0));
        CHECK.answer(one.give(0, 0, 0, 1, 2, 3, 6), "six days, five in a row", 2160,
                x -> x.give(0, 4, 0));
    }

    private static void weekOf2880() {
        Recipe two = WIDE.dutyOfWork(480).dutyOfWork(481).drivers(1).give(0, 0, 0, 1, 2, 4, 5);
        CHECK.answer(two, "give: 2880", 2880, x -> x.give(0, 6, 0));
        CHECK.badState(two, "give: 2881", x -> x.give(0, 6, 1));
        CHECK.onlyAsks(two, "reason: 2881", 6, x -> x.reason(0, 6, 1));
    }

    private static void restBefore() {
        for (int rest : new int[] {0, 1, 660, 900}) {
            Recipe two = restDesk(rest);
            CHECK.answer(two.give(0, 0, 3), "rest of the least", 720, x -> x.give(0, 4, 2));
            CHECK.badState(two.give(0, 1, 3), "one less than the least", x -> x.give(0, 4, 2));
            CHECK.answer(two.give(0, 1, 3), "two days later", 720, x -> x.give(0, 5, 2));
        }
    }

    private static void restBehind() {
        for (int rest : new int[] {0, 1, 660, 900}) {
            Recipe two = restDesk(rest);
            CHECK.answer(two.give(0, 2, 4), "rest of the least", 720, x -> x.give(0, 3, 0));
            CHECK.badState(two.give(0, 2, 4), "one less than the least", x -> x.give(0, 3, 1));
            CHECK.answer(two.give(0, 2, 4), "two days before", 720, x -> x.give(0, 2, 1));
        }
    }

    /** Behind duty 0 the rest until duty 2 is this least rest, behind duty 1 a minute less. */
    private static Recipe restDesk(int rest) {
        // Duty 2 begins at 90 or later, so that duty 0 can end at its begin + 1440 - rest.
        int begin = rest < 300 ? 90 : 390;
        int end = begin + 1440 - rest;
        return WIDE.rules(600, 1000, 30, rest).dutyOf(end - 55, end - 5)
                .dutyOf(end - 55, end - 4).dutyOf(begin + 10, begin + 60).drivers(1);
    }

    private static void leastRestAtFirst() {
        Recipe two = new Recipe().dutyOf(1000, 1165).dutyOf(1000, 1166)
                .dutyOf(400, 500).drivers(1);
        CHECK.answer(two.give(0, 0, 0), "rest 660 behind", 720, x -> x.give(0, 1, 2));
        CHECK.badState(two.give(0, 1, 0), "rest 659 behind", x -> x.give(0, 1, 2));
        CHECK.answer(two.give(0, 2, 1), "rest 660 ahead", 720, x -> x.give(0, 0, 0));
        CHECK.badState(two.give(0, 2, 1), "rest 659 ahead", x -> x.give(0, 0, 1));
    }

    // ---- what is fixed, and what stays

    private static void fixedOnSomeDay() {
        Recipe one = WIDE.dutyOf(100, 200).dutyOf(300, 400).drivers(8);
        CHECK.answer(one, "duty(0, 8), not given", 0, x -> x.duty(0, 8));
        for (int day = 0; day <= 6; day++) {
            int given = day;
            Recipe had = one.give(day, 0, day);
            CHECK.answer(had, "duty(0, 8)", 1, x -> x.duty(0, 8));
            CHECK.answer(had, "duty(1, 8), another one", 0, x -> x.duty(1, 8));
            CHECK.answer(had.then(x -> x.takeBack(given, given)), "taken back", 0,
                    x -> x.duty(0, 8));
        }
        Recipe twice = one.give(0, 0, 0).give(7, 0, 6);
        CHECK.answer(twice.then(x -> x.takeBack(0, 0)), "still on day 6", 1, x -> x.duty(0, 8));
        CHECK.answer(twice.then(x -> x.takeBack(7, 6)), "still on day 0", 1, x -> x.duty(0, 8));
        CHECK.answer(twice.then(x -> x.takeBack(7, 6)).then(x -> x.takeBack(0, 0)),
                "on no day", 0, x -> x.duty(0, 8));
    }

    private static void fixedTripsStay() {
        Recipe open = WIDE.rules(600, 1000, 90, 0).trips(100, 220, 220, 340, 340, 460, 460, 580,
                580, 685, 100, 200, 700, 710).duty(0, 1, 2, 3, 4).duty(5).drivers(1);
        Recipe fixed = open.give(0, 0, 3);
        CHECK.badState(fixed, "put", x -> x.put(0, 6));
        CHECK.badState(fixed, "takeOut of the first", x -> x.takeOut(0));
        CHECK.badState(fixed, "takeOut of the last", x -> x.takeOut(4));
        CHECK.badState(fixed, "swap", x -> x.swap(0, 1, 460));
        CHECK.badState(fixed, "swap with it", x -> x.swap(1, 0, 460));
        CHECK.onlyAsks(fixed, "bestFor", 1, x -> x.bestFor(6));
        CHECK.onlyAsks(fixed, "improve", 0, x -> x.improve());
        CHECK.row("plan", fixed.then(x -> x.plan()).make(), 0, 0, 1, 2, 3, 4);
        Recipe free = fixed.then(x -> x.takeBack(0, 3));
        CHECK.answer(free, "put, no more fixed", 5, x -> x.put(0, 6));
        CHECK.answer(free, "takeOut, no more fixed", 0, x -> x.takeOut(4));
        CHECK.answer(free, "improve, no more fixed", -285, x -> x.improve());
    }

    private static void waysLeaveAll() {
        Recipe before = Recipe.mixed().give(1, 1, 4);
        DutyDesk x = before.way(0, 1, 90).way(0, 2, 90).way(1, 2, 90).make();
        CHECK.due("duty(0, 7): ways of 90 in 40 minutes", x.duty(0, 7), 1);
        DutyDesk y = WIDE.trip(0, 1, 300, 360).trip(2, 0, 380, 440).trips(500, 510).duty(0, 1)
                .drivers(1).give(0, 0, 5).way(1, 2, 21).make();
        CHECK.due("not right any more", y.duty(0, 7), 0);
        CHECK.row("not right any more", y, 0, 0, 1);
        CHECK.due("still given", y.given(0, 5), 0);
        CHECK.due("still fixed", y.duty(0, 8), 1);
        CHECK.due("still paid", y.week(0), 360);
        CHECK.row("ways", x, 0, 0, 1);
        CHECK.row("ways", x, 1, 2, 3);
        CHECK.row("ways", x, 2);
        CHECK.due("free trips", x.count(3), 1);
        CHECK.due("given(0, 2)", x.given(0, 2), 0);
        CHECK.due("given(1, 4)", x.given(1, 4), 1);
    }

    private static void rulesLeaveAll() {
        DutyDesk x = Recipe.mixed().give(1, 1, 4).give(1, 0, 6).make();
        CHECK.due("setRules", x.setRules(60, 240, 90, 900), 2);
        CHECK.row("rules", x, 0, 0, 1);
        CHECK.row("rules", x, 1, 2, 3);
        CHECK.due("free trips", x.count(3), 1);
        CHECK.due("given(0, 2)", x.given(0, 2), 0);
        CHECK.due("given(1, 4)", x.given(1, 4), 1);
        CHECK.due("given(1, 6)", x.given(1, 6), 0);
        CHECK.due("still fixed", x.duty(1, 8), 1);
        CHECK.due("still paid", x.week(1), 720);

        // Two duties with too little rest between them, and more pay than the limit, stay given.
        Recipe close = WIDE.dutyOf(1000, 1165).dutyOf(100, 200).drivers(1).give(0, 0, 0)
                .give(0, 1, 1).rules(600, 1000, 30, 900);
        CHECK.answer(close, "given(0, 0)", 0, y -> y.given(0, 0));
        CHECK.answer(close, "given(0, 1)", 1, y -> y.given(0, 1));
        CHECK.answer(close, "rest", 90 + 1440 - 1170, y -> y.rest(0, 1));
        Recipe paid = WIDE.way(0, 1, 15).trip(1, 1, 100, 340).trip(1, 1, 340, 550).duty(0, 1)
                .drivers(1).give(0, 0, 0, 1, 2, 4, 5).way(0, 1, 90);
        CHECK.answer(paid, "pay of the week above the limit", 5 * 727, y -> y.week(0));
    }

    // ---- exceptions

    private static void throwsChangeNothing() {
        Recipe mixed = Recipe.mixed();
        CHECK.noSuch(mixed, "setWay(6, 0, 5)", x -> x.setWay(6, 0, 5));
        CHECK.badArgument(mixed, "setWay(0, 1, 91)", x -> x.setWay(0, 1, 91));
        CHECK.noSuch(mixed, "addTrip(6, 0, 5, 6)", x -> x.addTrip(6, 0, 5, 6));
        CHECK.badArgument(mixed, "addTrip(0, 0, 5, 5)", x -> x.addTrip(0, 0, 5, 5));
        CHECK.noSuch(mixed, "trip(5, 0)", x -> x.trip(5, 0));
        CHECK.badArgument(mixed, "setRules(60, 240, 10, 901)", x -> x.setRules(60, 240, 10, 901));
        CHECK.noSuch(mixed, "count(4)", x -> x.count(4));
        CHECK.noSuch(mixed, "put(3, 4)", x -> x.put(3, 4));
        CHECK.badState(mixed, "put(0, 4)", x -> x.put(0, 4));
        CHECK.noSuch(mixed, "takeOut(5)", x -> x.takeOut(5));
        CHECK.badState(mixed, "takeOut(0)", x -> x.takeOut(0));
        CHECK.noSuch(mixed, "duty(0, 9)", x -> x.duty(0, 9));
        CHECK.noSuch(mixed, "tripAt(2, 0)", x -> x.tripAt(2, 0));
        CHECK.noSuch(mixed, "bestFor(5)", x -> x.bestFor(5));
        CHECK.noSuch(mixed, "swap(1, 3, 500)", x -> x.swap(1, 3, 500));
        CHECK.badArgument(mixed, "swap(1, 1, 500)", x -> x.swap(1, 1, 500));
        CHECK.badState(mixed, "swap(1, 0, 500)", x -> x.swap(1, 0, 500));
        CHECK.noSuch(mixed, "reason(0, 7, 1)", x -> x.reason(0, 7, 1));
        CHECK.noSuch(mixed, "give(2, 0, 1)", x -> x.give(2, 0, 1));
        CHECK.badState(mixed, "give(0, 2, 1)", x -> x.give(0, 2, 1));
        CHECK.noSuch(mixed, "takeBack(0, 7)", x -> x.takeBack(0, 7));
        CHECK.badState(mixed, "takeBack(1, 2)", x -> x.takeBack(1, 2));
        CHECK.noSuch(mixed, "given(0, 7)", x -> x.given(0, 7));
        CHECK.noSuch(mixed, "fill(7)", x -> x.fill(7));
        CHECK.noSuch(mixed, "week(2)", x -> x.week(2));
        CHECK.noSuch(mixed, "rest(0, 0)", x -> x.rest(0, 0));
        Recipe full = mixed.emptyDuties(9).drivers(6);
        CHECK.badState(full, "addDuty()", x -> x.addDuty());
        CHECK.badState(full, "addDriver()", x -> x.addDriver());
        CHECK.badState(full.tripsInARow(5, 40), "addTrip(0, 0, 5, 6)",
                x -> x.addTrip(0, 0, 5, 6));
    }

    private static void firstException() {
        Recipe full = Recipe.mixed().tripsInARow(5, 40);
        CHECK.noSuch(full, "setWay(6, 6, 0)", x -> x.setWay(6, 6, 0));
        CHECK.noSuch(full, "setWay(0, -1, 91)", x -> x.setWay(0, -1, 91));
        CHECK.noSuch(full, "addTrip(0, 6, 5, 5)", x -> x.addTrip(0, 6, 5, 5));
        CHECK.noSuch(full, "addTrip(-1, 0, 5, 6)", x -> x.addTrip(-1, 0, 5, 6));
        CHECK.badArgument(full, "addTrip(0, 0, 5, 5)", x -> x.addTrip(0, 0, 5, 5));
        CHECK.badState(full, "addTrip(0, 0, 5, 6)", x -> x.addTrip(0, 0, 5, 6));
        CHECK.noSuch(full, "put(3, 0)", x -> x.put(3, 0));
        CHECK.noSuch(full, "put(0, 40)", x -> x.put(0, 40));
        CHECK.noSuch(full, "swap(3, 3, 0)", x -> x.swap(3, 3, 0));
        CHECK.noSuch(full, "swap(0, -1, 0)", x -> x.swap(0, -1, 0));
        CHECK.badArgument(full, "swap(0, 0, 0)", x -> x.swap(0, 0, 0));
        CHECK.badState(full, "swap(0, 1, 0)", x -> x.swap(0, 1, 0));
        CHECK.noSuch(full, "give(0, 7, 2)", x -> x.give(0, 7, 2));
        CHECK.noSuch(full, "give(2, 2, 0)", x -> x.give(2, 2, 0));
        CHECK.noSuch(full, "takeBack(1, 7)", x -> x.takeBack(1, 7));
        CHECK.noSuch(full, "takeBack(2, 0)", x -> x.takeBack(2, 0));
    }
}
