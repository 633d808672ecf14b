import java.math.BigInteger;

/** The boundary cases of promises 18 to 26, a test for each sentence of the document. */
public final class DriversBoundsTest {

    private static final Check CHECK = new Check("DriversBoundsTest");
    private static final Recipe NEW = new Recipe();
    private static final Recipe WIDE = Recipe.wide();
    private static final Recipe MIXED = Recipe.mixed();
    private static final int MIN = Integer.MIN_VALUE;
    private static final int MAX = Integer.MAX_VALUE;
    private static final int[] NO_DRIVERS = {-1, 2, 8, MIN, MAX};
    private static final int[] NO_DAYS = {-1, 7, MIN, MAX};
    private static final int[] NO_DUTIES = {-1, 3, 12, MIN, MAX};

    public static void main(String[] args) {
        CHECK.test("18: Returns its number", () -> addDriverAnswers());
        CHECK.test("18: if there are 8 drivers", () -> eightDrivers());
        CHECK.test("19: 0 if the duty can be given", () -> reasonNone());
        CHECK.test("19: 1 it has no trips", () -> reasonNoTrips());
        CHECK.test("19: 2 it is not right", () -> reasonNotRight());
        CHECK.test("19: 3 a driver has it on this day", () -> reasonADriverHasIt());
        CHECK.test("19: 4 the driver has one on this day", () -> reasonDriverHasOne());
        CHECK.test("19: 5 six days", () -> reasonSixDays());
        CHECK.test("19: 6 pay", () -> reasonPay());
        CHECK.test("19: 7 rest", () -> reasonRest());
        CHECK.test("19: the number of the first reason", () -> reasonFirst());
        CHECK.test("19: if there is no such driver, day or duty", () -> reasonNoSuch());
        CHECK.test("20: Returns the pay of all duties of the driver", () -> giveAnswers());
        CHECK.test("20: if there is no such driver, day or duty", () -> giveNoSuch());
        CHECK.test("20: if it cannot be given to the driver", () -> giveRefused());
        CHECK.test("21: Returns the duty", () -> takeBackAnswers());
        CHECK.test("21: if there is no such driver or day", () -> takeBackNoSuch());
        CHECK.test("21: if the driver has none on this day", () -> takeBackNone());
        CHECK.test("22: -1 if there is none", () -> givenNone());
        CHECK.test("22: if there is no such driver or day", () -> givenNoSuch());
        CHECK.test("23: for each duty with trips that no driver has", () -> fillOpenDuties());
        CHECK.test("23: in ascending order of their begins", () -> fillByBegin());
        CHECK.test("23: in ascending order of their begins, again", () -> fillAgain());
        CHECK.test("23: of the same begin of their numbers", () -> fillByNumber());
        CHECK.test("23: to whom it can be given", () -> fillWhoCan());
        CHECK.test("23: whose pay in the week is least", () -> fillLeastPay());
        CHECK.test("23: of several the one with the smallest number", () -> fillSmallestNumber());
        CHECK.test("23: Returns how many .. no driver has on this day then", () -> fillAnswers());
        CHECK.test("23: if there is no such day", () -> fillNoDay());
        CHECK.test("24: Returns the pay of all its duties in the week", () -> weekNoneAndMost());
        CHECK.test("24: if there is no such driver", () -> weekNoDriver());
        CHECK.test("25: Returns the minutes between", () -> restMinutes());
        CHECK.test("25: -1 if one of them is not there", () -> restNone());
        CHECK.test("25: if there is no such driver", () -> restNoDriver());
        CHECK.test("25: or day is not 1 to 6", () -> restNoDay());
        CHECK.test("26: A number d starts with 311", () -> digestOfNothing());
        CHECK.test("26: which wraps around as a 64-bit integer", () -> digestWrapsAround());
        CHECK.test("26: for each of them the duties on all days", () -> digestOfDrivers());
        CHECK.end();
    }

    // ---- promise 18

    private static void addDriverAnswers() {
        CHECK.answer(NEW, "the first one", 0, x -> x.addDriver());
        CHECK.answer(NEW.drivers(7), "the last one", 7, x -> x.addDriver());
        CHECK.answer(NEW.drivers(7), "count(2) ahead of it", 7, x -> x.count(2));
    }

    private static void eightDrivers() {
        CHECK.badState(NEW.drivers(8), "the 9th", x -> x.addDriver());
        Recipe busy = WIDE.dutyOf(100, 200).drivers(8).give(7, 0, 6);
        CHECK.badState(busy, "the 9th, one is busy", x -> x.addDriver());
        CHECK.answer(busy, "count(2)", 8, x -> x.count(2));
    }

    // ---- promise 19

    private static void reasonNone() {
        for (int day = 0; day <= 6; day++) {
            int asked = day;
            CHECK.onlyAsks(MIXED, "reason(1, " + day + ", 1)", 0, x -> x.reason(1, asked, 1));
        }
        Recipe last = WIDE.emptyDuties(11).dutyOf(100, 200).drivers(8);
        CHECK.onlyAsks(last, "reason of the last ones", 0, x -> x.reason(7, 6, 11));
    }

    private static void reasonNoTrips() {
        CHECK.onlyAsks(MIXED, "reason(1, 0, 2)", 1, x -> x.reason(1, 0, 2));
        Recipe emptied = WIDE.dutyOf(100, 200).drivers(1).then(x -> x.takeOut(0));
        CHECK.onlyAsks(emptied, "reason, emptied", 1, x -> x.reason(0, 0, 0));
        CHECK.onlyAsks(emptied.then(x -> x.put(0, 0)), "reason, filled again", 0,
                x -> x.reason(0, 0, 0));
    }

    private static void reasonNotRight() {
        Recipe one = WIDE.trip(0, 1, 100, 200).trip(2, 0, 220, 300).duty(0, 1).drivers(1);
        CHECK.onlyAsks(one.way(1, 2, 20), "idle time 0", 0, x -> x.reason(0, 0, 0));
        CHECK.onlyAsks(one.way(1, 2, 21), "idle time -1", 2, x -> x.reason(0, 0, 0));
        CHECK.onlyAsks(one.rules(195, 1000, 30, 0), "driving", 0, x -> x.reason(0, 0, 0));
        CHECK.onlyAsks(one.rules(194, 1000, 30, 0), "driving, above", 2,
                x -> x.reason(0, 0, 0));
        Recipe wide = WIDE.dutyOf(100, 110, 400, 410).drivers(1);
        CHECK.onlyAsks(wide.rules(600, 325, 30, 0), "spread", 0, x -> x.reason(0, 0, 0));
        CHECK.onlyAsks(wide.rules(600, 324, 30, 0), "spread, above", 2, x -> x.reason(0, 0, 0));
    }

    private static void reasonADriverHasIt() {
        CHECK.onlyAsks(MIXED, "another driver has it", 3, x -> x.reason(1, 2, 0));
        CHECK.onlyAsks(MIXED, "the driver itself has it", 3, x -> x.reason(0, 2, 0));
        CHECK.onlyAsks(MIXED, "on the day before nobody has it", 0, x -> x.reason(1, 1, 0));
        CHECK.onlyAsks(MIXED.then(x -> x.takeBack(0, 2)), "taken back", 0,
                x -> x.reason(1, 2, 0));
    }

    private static void reasonDriverHasOne() {
        CHECK.onlyAsks(MIXED, "the driver has one", 4, x -> x.reason(0, 2, 1));
        CHECK.onlyAsks(MIXED, "another driver has none", 0, x -> x.reason(1, 2, 1));
        CHECK.onlyAsks(MIXED.then(x -> x.takeBack(0, 2)), "taken back", 0,
                x -> x.reason(0, 2, 1));
    }

    private static void reasonSixDays() {
        Recipe one = WIDE.dutyOf(100, 200).drivers(1);
        int[][] had = {{0, 1, 2, 3, 4}, {1, 2, 3, 4, 5}, {2, 3, 4, 5, 6}, {0, 2, 3, 4, 5},
            {0, 1, 3, 4, 5}, {0, 1, 2, 4, 5}, {0, 1, 2, 3, 5}, {1, 2, 4, 5, 6},
            {0, 1, 2, 4, 5, 6}};
        int[][] six = {{5}, {0, 6}, {1}, {1}, {2}, {3}, {4}, {3}, {3}};
        int[][] less = {{6}, {}, {0}, {6}, {6}, {6}, {6}, {0}, {}};
        for (int i = 0; i < had.length; i++) {
            Recipe days = one.give(0, 0, had[i]);
            for (int day : six[i]) {
                CHECK.onlyAsks(days, "row " + i + ", day " + day, 5, x -> x.reason(0, day, 0));
            }
            for (int day : less[i]) {
                CHECK.onlyAsks(days, "row " + i + ", day " + day, 0, x -> x.reason(0, day, 0));
            }
        }
    }

    private static void reasonPay() {
        Recipe two = WIDE.dutyOfWork(480).dutyOfWork(481).drivers(2).give(0, 0, 0, 1, 3, 4, 6);
        CHECK.onlyAsks(two, "pay 2880", 0, x -> x.reason(0, 2, 0));
        CHECK.onlyAsks(two, "pay 2881", 6, x -> x.reason(0, 2, 1));
        CHECK.onlyAsks(two, "another driver", 0, x -> x.reason(1, 2, 1));
    }

    private static void reasonRest() {
        Recipe two = WIDE.rules(600, 1000, 30, 600).dutyOf(1000, 1225).dutyOf(1000, 1226)
                .dutyOf(400, 500).drivers(1);
        CHECK.onlyAsks(two.give(0, 0, 2), "rest 600 from the day before", 0,
                x -> x.reason(0, 3, 2));
        CHECK.onlyAsks(two.give(0, 1, 2), "rest 599 from the day before", 7,
                x -> x.reason(0, 3, 2));
        CHECK.onlyAsks(two.give(0, 2, 2), "rest 600 to the day behind", 0,
                x -> x.reason(0, 1, 0));
        CHECK.onlyAsks(two.give(0, 2, 2), "rest 599 to the day behind", 7,
                x -> x.reason(0, 1, 1));
        CHECK.onlyAsks(two.give(0, 2, 1, 3), "between, rest 599 to the day behind", 7,
                x -> x.reason(0, 2, 1));
        CHECK.onlyAsks(two.give(0, 1, 1).give(0, 2, 3), "between, rest 599 from the day before",
                7, x -> x.reason(0, 2, 2));
        CHECK.onlyAsks(two.give(0, 1, 1), "two days later", 0, x -> x.reason(0, 3, 2));
        CHECK.onlyAsks(two.give(0, 2, 3), "two days before", 0, x -> x.reason(0, 1, 1));
        CHECK.onlyAsks(two.give(0, 1, 6), "day 0 is not behind day 6", 0,
                x -> x.reason(0, 0, 2));
        CHECK.onlyAsks(two.give(0, 2, 0), "day 6 is not before day 0", 0,
                x -> x.reason(0, 6, 1));
    }

    private static void reasonFirst() {
        Recipe two = WIDE.dutyOfWork(571).dutyOfWork(541).duty().drivers(2);
        // Works of 571 and 541 are paid 616 and 571: 4 days of the first leave room for 416.
        Recipe six = two.give(0, 1, 0, 1, 2, 3, 4).give(1, 0, 0).rules(600, 1000, 30, 900);
        CHECK.onlyAsks(six, "1 ahead of 4", 1, x -> x.reason(0, 0, 2));
        CHECK.onlyAsks(six, "3 ahead of 4 and 6", 3, x -> x.reason(0, 0, 0));
        CHECK.onlyAsks(six, "4 ahead of 6", 4, x -> x.reason(0, 1, 0));
        CHECK.onlyAsks(six, "5 ahead of 6 and 7", 5, x -> x.reason(0, 5, 0));
        Recipe four = two.give(0, 0, 0, 1, 3, 4).rules(600, 1000, 30, 900);
        CHECK.onlyAsks(four, "6 ahead of 7", 6, x -> x.reason(0, 2, 1));
        Recipe three = two.give(0, 0, 0, 3, 4).rules(600, 1000, 30, 900);
        CHECK.onlyAsks(three, "7 alone", 7, x -> x.reason(0, 2, 1));
        Recipe wrong = six.rules(100, 1000, 30, 900);
        CHECK.onlyAsks(wrong, "2 ahead of 3", 2, x -> x.reason(1, 0, 0));
        CHECK.onlyAsks(wrong, "2 ahead of 4", 2, x -> x.reason(0, 1, 0));
        CHECK.onlyAsks(wrong, "2 ahead of 5", 2, x -> x.reason(0, 5, 0));
        CHECK.onlyAsks(wrong, "1 ahead of 5", 1, x -> x.reason(0, 5, 2));
    }

    private static void reasonNoSuch() {
        for (int driver : NO_DRIVERS) {
            CHECK.noSuch(MIXED, "driver " + driver, x -> x.reason(driver, 0, 1));
            CHECK.noSuch(MIXED, "driver " + driver + ", no trips", x -> x.reason(driver, 0, 2));
        }
        for (int day : NO_DAYS) {
            CHECK.noSuch(MIXED, "day " + day, x -> x.reason(1, day, 1));
            CHECK.noSuch(MIXED, "day " + day + ", no trips", x -> x.reason(1, day, 2));
        }
        for (int duty : NO_DUTIES) {
            CHECK.noSuch(MIXED, "duty " + duty, x -> x.reason(1, 0, duty));
            CHECK.noSuch(MIXED, "duty " + duty + ", a taken day", x -> x.reason(0, 2, duty));
        }
    }

    // ---- promise 20

    private static void giveAnswers() {
        Recipe two = WIDE.dutyOfWork(20).dutyOfWork(480).drivers(2);
        CHECK.answer(two, "the first one", 360, x -> x.give(0, 0, 0));
        CHECK.answer(two.give(0, 0, 0), "the second one", 840, x -> x.give(0, 6, 1));
        CHECK.answer(two.give(0, 0, 0), "another driver", 360, x -> x.give(1, 6, 0));
        CHECK.answer(two.give(0, 1, 0, 1, 2, 4, 5), "the most", 2880, x -> x.give(0, 6, 1));
    }

    private static void giveNoSuch() {
        for (int driver : NO_DRIVERS) {
            CHECK.noSuch(MIXED, "driver " + driver, x -> x.give(driver, 0, 1));
            CHECK.noSuch(MIXED, "driver " + driver + ", no trips", x -> x.give(driver, 0, 2));
        }
        for (int day : NO_DAYS) {
            CHECK.noSuch(MIXED, "day " + day, x -> x.give(1, day, 1));
            CHECK.noSuch(MIXED, "day " + day + ", no trips", x -> x.give(1, day, 2));
        }
        for (int duty : NO_DUTIES) {
            CHECK.noSuch(MIXED, "duty " + duty, x -> x.give(1, 0, duty));
            CHECK.noSuch(MIXED, "duty " + duty + ", a taken day", x -> x.give(0, 2, duty));
        }
    }

    private static void giveRefused() {
        CHECK.badState(MIXED, "1, no trips", x -> x.give(1, 0, 2));
        CHECK.badState(MIXED.rules(60, 900, 40, 600), "2, not right", x -> x.give(1, 0, 1));
        CHECK.badState(MIXED, "3, a driver has it", x -> x.give(1, 2, 0));
        CHECK.badState(MIXED, "3, the driver itself has it", x -> x.give(0, 2, 0));
        CHECK.badState(MIXED, "4, the driver has one", x -> x.give(0, 2, 1));
        Recipe days = WIDE.dutyOf(100, 200).drivers(1);
        CHECK.badState(days.give(0, 0, 1, 2, 3, 4, 5), "5, six days", x -> x.give(0, 0, 0));
        CHECK.badState(days.give(0, 0, 0, 1, 2, 3, 4), "5, six days", x -> x.give(0, 5, 0));
        Recipe pay = WIDE.dutyOfWork(480).dutyOfWork(481).drivers(1).give(0, 0, 0, 1, 3, 4, 6);
        CHECK.badState(pay, "6, pay 2881", x -> x.give(0, 2, 1));
        CHECK.answer(pay, "pay 2880", 2880, x -> x.give(0, 2, 0));
        Recipe rest = WIDE.rules(600, 1000, 30, 600).dutyOf(1000, 1226).dutyOf(400, 500)
                .drivers(1);
        CHECK.badState(rest.give(0, 0, 5), "7, rest 599", x -> x.give(0, 6, 1));
        CHECK.badState(rest.give(0, 1, 1), "7, rest 599", x -> x.give(0, 0, 0));
    }

    // ---- promises 21 and 22

    private static void takeBackAnswers() {
        CHECK.answer(MIXED, "takeBack(0, 2)", 0, x -> x.takeBack(0, 2));
        Recipe last = WIDE.emptyDuties(11).dutyOf(100, 200).drivers(8).give(7, 11, 0, 6);
        CHECK.answer(last, "the last duty on day 6", 11, x -> x.takeBack(7, 6));
        CHECK.answer(last.then(x -> x.takeBack(7, 6)), "given on day 0", 11, x -> x.given(7, 0));
        CHECK.answer(last.then(x -> x.takeBack(7, 6)), "given on day 6", -1, x -> x.given(7, 6));
        Recipe wrong = last.rules(60, 1000, 30, 0);
        CHECK.answer(wrong, "a duty that is not right any more", 11, x -> x.takeBack(7, 0));
    }

    private static void takeBackNoSuch() {
        for (int driver : NO_DRIVERS) {
            CHECK.noSuch(MIXED, "driver " + driver, x -> x.takeBack(driver, 2));
        }
        for (int day : NO_DAYS) {
            CHECK.noSuch(MIXED, "day " + day, x -> x.takeBack(0, day));
            CHECK.noSuch(MIXED, "day " + day + ", driver 2", x -> x.takeBack(2, day));
        }
    }

    private static void takeBackNone() {
        for (int day = 0; day <= 6; day++) {
            int asked = day;
            CHECK.badState(MIXED, "takeBack(1, " + day + ")", x -> x.takeBack(1, asked));
        }
        CHECK.badState(MIXED, "on the day before", x -> x.takeBack(0, 1));
        CHECK.badState(MIXED, "on the day behind", x -> x.takeBack(0, 3));
        CHECK.badState(MIXED.then(x -> x.takeBack(0, 2)), "a second time", x -> x.takeBack(0, 2));
    }

    private static void givenNone() {
        for (int day = 0; day <= 6; day++) {
            int asked = day;
            CHECK.onlyAsks(MIXED, "given(0, " + day + ")", day == 2 ? 0 : -1,
                    x -> x.given(0, asked));
            CHECK.onlyAsks(MIXED, "given(1, " + day + ")", -1, x -> x.given(1, asked));
        }
        CHECK.onlyAsks(MIXED.then(x -> x.takeBack(0, 2)), "taken back", -1, x -> x.given(0, 2));
    }

    private static void givenNoSuch() {
        for (int driver : NO_DRIVERS) {
            CHECK.noSuch(MIXED, "driver " + driver, x -> x.given(driver, 2));
        }
        for (int day : NO_DAYS) {
            CHECK.noSuch(MIXED, "day " + day, x -> x.given(0, day));
        }
    }

    // ---- promise 23

    private static void dueDay(String call, DutyDesk x, int day, int... duties) {
        for (int driver = 0; driver < duties.length; driver++) {
            CHECK.due(call + ": driver " + driver, x.given(driver, day), duties[driver]);
        }
    }

    private static void fillOpenDuties() {
        CHECK.onlyAsks(NEW.drivers(8), "fill without duties", 0, x -> x.fill(0));
        CHECK.onlyAsks(NEW.emptyDuties(12).drivers(8), "fill without trips", 0, x -> x.fill(0));
        Recipe had = WIDE.dutyOf(100, 200).drivers(2).give(1, 0, 3);
        CHECK.onlyAsks(had, "fill, a driver has it", 0, x -> x.fill(3));
        CHECK.answer(had, "fill, a driver has it on another day", 0, x -> x.fill(4));
        dueDay("fill(4)", had.then(x -> x.fill(4)).make(), 4, 0, -1);
        dueDay("fill(4)", had.then(x -> x.fill(4)).make(), 3, -1, 0);
        DutyDesk x = WIDE.duty().dutyOf(100, 200).drivers(2).then(y -> y.fill(0)).make();
        dueDay("fill beside a duty without trips", x, 0, 1, -1);
    }

    private static void fillByBegin() {
        DutyDesk x = WIDE.dutyOf(102, 200).dutyOf(101, 200).dutyOf(100, 200).drivers(3)
                .then(y -> y.fill(6)).make();
        dueDay("fill, by begin", x, 6, 2, 1, 0);
        // A way of 90 to the first trip makes its duty begin earlier, even ahead of 0.
        DutyDesk z = WIDE.way(0, 1, 90).dutyOf(9, 100).trip(1, 0, 80, 120).duty(1)
                .dutyOf(0, 100).drivers(3).then(y -> y.fill(0)).make();
        dueDay("fill, begins of -1, -20 and -10", z, 0, 1, 2, 0);
        DutyDesk w = WIDE.dutyOf(100, 200).dutyOf(99, 200).drivers(1).then(y -> y.fill(0)).make();
        dueDay("fill, one driver for two", w, 0, 1);
    }

    private static void fillAgain() {
        // What an earlier plan() or fill() looked at does not come into the order of a later one.
        Recipe planned = WIDE.trips(300, 500, 100, 330).then(x -> x.plan())
                .then(x -> x.takeOut(1)).trips(160, 250).then(x -> x.put(0, 2)).drivers(2);
        DutyDesk x = planned.then(y -> y.fill(0)).make();
        dueDay("fill behind plan", x, 0, 0, 1);
        Recipe filled = WIDE.dutyOf(200, 300).dutyOf(100, 110, 400, 500).drivers(2)
                .then(y -> y.fill(0)).then(y -> y.takeBack(0, 0)).then(y -> y.takeBack(1, 0))
                .then(y -> y.takeOut(1));
        dueDay("fill behind fill", filled.then(y -> y.fill(0)).make(), 0, 0, 1);
    }

    private static void fillByNumber() {
        DutyDesk x = WIDE.dutyOf(100, 300).dutyOf(100, 200).dutyOf(100, 250).drivers(3)
                .then(y -> y.fill(6)).make();
        dueDay("fill, the same begins", x, 6, 0, 1, 2);
        DutyDesk z = WIDE.way(0, 1, 20).trip(1, 0, 120, 200).duty(0).dutyOf(100, 200).drivers(1)
                .then(y -> y.fill(0)).make();
        dueDay("fill, the same begins, another departure", z, 0, 0);
    }

    private static void fillWhoCan() {
        Recipe rest = WIDE.rules(600, 1000, 30, 600).dutyOf(1000, 1226).dutyOf(400, 500)
                .dutyOf(390, 400).drivers(2);
        // Driver 0 has less pay, but comes from a duty that ends too late for duties 2 and 1.
        DutyDesk x = rest.give(0, 0, 0).give(1, 1, 3, 5).make();
        CHECK.due("fill(1)", x.fill(1), 1);
        dueDay("fill, too little rest", x, 1, 0, 2);
        Recipe six = WIDE.dutyOf(100, 200).drivers(1).give(0, 0, 0, 1, 2, 3, 4);
        CHECK.onlyAsks(six, "fill, six days", 1, y -> y.fill(5));
        CHECK.answer(six, "fill, not six days", 0, y -> y.fill(6));
        Recipe pay = WIDE.dutyOfWork(480).dutyOfWork(481).drivers(1).give(0, 0, 0, 1, 3, 4, 6);
        CHECK.answer(pay, "fill, pay 2880", 1, y -> y.fill(2));
        dueDay("fill, pay 2880", pay.then(y -> y.fill(2)).make(), 2, 0);
        Recipe wrong = WIDE.dutyOf(100, 200).dutyOf(100, 150).drivers(2).rules(99, 1000, 30, 0);
        CHECK.answer(wrong, "fill, one is not right", 1, y -> y.fill(0));
        dueDay("fill, one is not right", wrong.then(y -> y.fill(0)).make(), 0, 1, -1);
    }

    private static void fillLeastPay() {
        Recipe two = WIDE.dutyOfWork(361).dutyOfWork(360).dutyOf(100, 110).drivers(2)
                .give(0, 0, 6).give(1, 1, 6);
        DutyDesk x = two.make();
        CHECK.due("week(0)", x.week(0), 361);
        CHECK.due("week(1)", x.week(1), 360);
        CHECK.due("fill(3)", x.fill(3), 1);
        dueDay("fill, the least pay first", x, 3, 1, 0);
    }

    private static void fillSmallestNumber() {
        DutyDesk x = WIDE.dutyOf(100, 200).drivers(8).then(y -> y.fill(0)).make();
        dueDay("fill, 8 without pay", x, 0, 0, -1, -1, -1, -1, -1, -1, -1);
        DutyDesk z = WIDE.dutyOf(100, 200).dutyOf(300, 310).drivers(3).give(0, 0, 0)
                .give(1, 0, 2).give(2, 0, 4).then(y -> y.fill(6)).make();
        dueDay("fill, three of the same pay", z, 6, 0, 1, -1);
    }

    private static void fillAnswers() {
        Recipe full = WIDE;
        for (int duty = 0; duty < 12; duty++) {
            full = full.dutyOf(100 + duty, 200 + duty);
        }
        CHECK.onlyAsks(full, "fill of 12 without drivers", 12, x -> x.fill(0));
        CHECK.answer(full.drivers(8), "fill of 12 with 8 drivers", 4, x -> x.fill(0));
        CHECK.answer(full.drivers(8).then(x -> x.fill(0)), "fill again", 4, x -> x.fill(0));
        CHECK.answer(full.drivers(8).rules(60, 1000, 30, 0), "fill, none is right", 12,
                x -> x.fill(0));
        CHECK.answer(full.drivers(8).give(0, 11, 6), "fill, one is given", 4, x -> x.fill(6));
        CHECK.answer(WIDE.dutyOf(100, 200).duty().drivers(1), "fill of all", 0, x -> x.fill(6));
    }

    private static void fillNoDay() {
        for (int day : NO_DAYS) {
            CHECK.noSuch(MIXED, "fill(" + day + ")", x -> x.fill(day));
            CHECK.noSuch(NEW, "fill(" + day + ") of a new desk", x -> x.fill(day));
        }
        CHECK.answer(MIXED, "fill(0)", 0, x -> x.fill(0));
        CHECK.answer(MIXED, "fill(6)", 0, x -> x.fill(6));
    }

    // ---- promises 24 and 25

    private static void weekNoneAndMost() {
        Recipe two = WIDE.dutyOfWork(480).dutyOf(100, 110).drivers(2);
        CHECK.onlyAsks(two, "week without duties", 0, x -> x.week(0));
        Recipe most = two.give(0, 0, 0, 1, 2, 4, 5, 6);
        CHECK.onlyAsks(most, "the most", 2880, x -> x.week(0));
        CHECK.onlyAsks(most, "another driver", 0, x -> x.week(1));
        CHECK.onlyAsks(two.give(1, 1, 0), "day 0", 360, x -> x.week(1));
        CHECK.onlyAsks(two.give(1, 1, 6), "day 6", 360, x -> x.week(1));
        CHECK.onlyAsks(most.then(x -> x.takeBack(0, 6)), "taken back", 2400, x -> x.week(0));
    }

    private static void weekNoDriver() {
        for (int driver : NO_DRIVERS) {
            CHECK.noSuch(MIXED, "week(" + driver + ")", x -> x.week(driver));
        }
        CHECK.noSuch(NEW.drivers(8), "week(8)", x -> x.week(8));
        CHECK.answer(NEW.drivers(8), "week(7)", 0, x -> x.week(7));
    }

    private static void restMinutes() {
        Recipe two = WIDE.way(0, 1, 85).way(0, 2, 90).dutyOf(400, 500)
                .trip(0, 1, 1600, 1700).duty(1).trip(2, 0, 450, 500).duty(2).drivers(1);
        CHECK.onlyAsks(two.give(0, 0, 5, 6), "a duty and itself", 390 + 1440 - 505,
                x -> x.rest(0, 6));
        CHECK.onlyAsks(two.give(0, 1, 0).give(0, 0, 1), "behind midnight", 390 + 1440 - 1790,
                x -> x.rest(0, 1));
        CHECK.onlyAsks(two.give(0, 1, 0).give(0, 2, 1), "with a way ahead", 0,
                x -> x.reason(0, 2, 0));
        CHECK.onlyAsks(two.give(0, 1, 0).give(0, 2, 1), "rest with a way ahead",
                350 + 1440 - 1790, x -> x.rest(0, 1));
        // Ways that are set later can leave no minutes, or less than none.
        Recipe night = WIDE.trip(0, 1, 1700, 1799).duty(0).trip(1, 0, 405, 500).duty(1)
                .drivers(1).give(0, 0, 2).give(0, 1, 3);
        CHECK.onlyAsks(night, "rest", 380 + 1440 - 1819, x -> x.rest(0, 3));
        Recipe none = WIDE.trip(0, 1, 1400, 1499).duty(0).trip(1, 0, 104, 200).duty(1)
                .drivers(1).give(0, 0, 2).give(0, 1, 3);
        CHECK.onlyAsks(none.way(0, 1, 15), "rest 0", 0, x -> x.rest(0, 3));
        CHECK.onlyAsks(none.way(0, 1, 90), "rest less than 0", -150, x -> x.rest(0, 3));
    }

    private static void restNone() {
        Recipe one = WIDE.dutyOf(400, 500).drivers(2).give(0, 0, 0, 2, 3);
        CHECK.onlyAsks(one, "none on this day", -1, x -> x.rest(0, 1));
        CHECK.onlyAsks(one, "none on the day before", -1, x -> x.rest(0, 2));
        CHECK.onlyAsks(one, "both are there", 1325, x -> x.rest(0, 3));
        CHECK.onlyAsks(one, "none on day 4", -1, x -> x.rest(0, 4));
        CHECK.onlyAsks(one, "none on both", -1, x -> x.rest(0, 6));
        CHECK.onlyAsks(one, "another driver", -1, x -> x.rest(1, 3));
    }

    private static void restNoDriver() {
        for (int driver : NO_DRIVERS) {
            CHECK.noSuch(MIXED, "rest(" + driver + ", 3)", x -> x.rest(driver, 3));
        }
    }

    private static void restNoDay() {
        for (int day : new int[] {0, -1, 7, MIN, MAX}) {
            CHECK.noSuch(MIXED, "rest(0, " + day + ")", x -> x.rest(0, day));
        }
        Recipe days = WIDE.dutyOf(400, 500).drivers(1).give(0, 0, 0, 1, 5, 6);
        CHECK.answer(days, "rest(0, 1)", 1325, x -> x.rest(0, 1));
        CHECK.answer(days, "rest(0, 6)", 1325, x -> x.rest(0, 6));
        CHECK.noSuch(days, "rest(0, 0)", x -> x.rest(0, 0));
        CHECK.noSuch(days, "rest(0, 7)", x -> x.rest(0, 7));
    }

    // ---- promise 26

    private static void digestOfNothing() {
        CHECK.onlyAsks(NEW, "digest of a new desk", 311L * 31 * 31 * 31, x -> x.digest());
        CHECK.onlyAsks(NEW.duty(), "digest of a duty without trips", sum(0, 1, 0, 0, 0, 0, 0, 0,
                0, 1, 0, 0).longValue(), x -> x.digest());
        CHECK.onlyAsks(NEW.trip(5, 3, 0, 1), "digest of a trip", sum(1, 5, 3, 0, 1, -1, 0, 0)
                .longValue(), x -> x.digest());
    }

    /** The checksum without a bound. */
    private static BigInteger sum(long... numbers) {
        BigInteger d = BigInteger.valueOf(311);
        for (long number : numbers) {
            d = d.multiply(BigInteger.valueOf(31)).add(BigInteger.valueOf(number));
        }
        return d;
    }

    private static void digestWrapsAround() {
        BigInteger below = sum(0, 0, 1, -1, -1, -1, -1, -1, -1, -1);
        CHECK.due("the sum is below 2^63", below.bitLength() > 63 ? 1 : 0, 0);
        CHECK.onlyAsks(NEW.drivers(1), "digest below 2^63", below.longValue(), x -> x.digest());
        Recipe one = WIDE.way(0, 1, 90).trip(1, 0, 0, 5).duty(0);
        BigInteger above = sum(1, 1, 0, 0, 5, 0, 1, 1, -100, 10, 110, 360, 0, 95, 1, 0, 0);
        CHECK.due("the sum is above 2^63", above.bitLength() > 63 ? 1 : 0, 1);
        CHECK.onlyAsks(one, "digest above 2^63", above.longValue(), x -> x.digest());
        BigInteger least = sum(0, 1, 0, 0, 0, 0, 0, 0, 0, 1, 0, 0);
        CHECK.due("the sum is just above 2^63", least.bitLength() > 63 ? 1 : 0, 1);
        CHECK.onlyAsks(NEW.duty(), "digest just above 2^63", least.longValue(),
                x -> x.digest());
    }

    private static void digestOfDrivers() {
        Recipe two = WIDE.drivers(2).dutyOf(100, 200).give(1, 0, 0, 6);
        BigInteger due = sum(1, 0, 0, 100, 200, 0, 1, 1, 90, 205, 115, 360, 0, 100, 1, 1,
                2, -1, -1, -1, -1, -1, -1, -1, 0, -1, -1, -1, -1, -1, 0);
        CHECK.onlyAsks(two, "digest", due.longValue(), x -> x.digest());
        Recipe full = NEW.drivers(8);
        long[] none = new long[3 + 8 * 7];
        none[2] = 8;
        for (int i = 3; i < none.length; i++) {
            none[i] = -1;
        }
        CHECK.onlyAsks(full, "digest of 8 drivers", sum(none).longValue(), x -> x.digest());
    }
}
