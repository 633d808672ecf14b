/** Promises 18 to 26: addDriver, reason, give, takeBack, given, fill, week, rest, digest. */
public final class DriversTest {

    private static final Check CHECK = new Check("DriversTest");
    private static final int[] FAR = {-1, Integer.MIN_VALUE, Integer.MAX_VALUE};

    public static void main(String[] args) {
        addDriver();
        reasonsOfTheDuty();
        reasonOfTheDay();
        sixDays();
        weekPayLimit();
        leastRest();
        firstLeastRest();
        firstReason();
        wrongNumbers();
        give();
        takeBack();
        fillByLeastPay();
        fillInOrder();
        fillLeavesWhatCannotBeGiven();
        weekAndRest();
        rulesChangeNothingGiven();
        digest();
        CHECK.end();
    }

    /** A desk with wide rules and without a least rest; duty n has a single trip, the n-th. */
    private static DutyDesk deskOf(int[]... times) {
        DutyDesk x = new DutyDesk();
        x.setRules(600, 1000, 90, 0);
        for (int[] time : times) {
            x.put(x.addDuty(), x.addTrip(0, 0, time[0], time[1]));
        }
        return x;
    }

    private static int[] t(int departure, int arrival) {
        return new int[] {departure, arrival};
    }

    /** A duty of this work, from 90 on: three trips, since one trip is too short for it. */
    private static int addLongDuty(DutyDesk x, int work) {
        int duty = x.addDuty();
        x.put(duty, x.addTrip(0, 0, 100, 300));
        x.put(duty, x.addTrip(0, 0, 300, 500));
        x.put(duty, x.addTrip(0, 0, 500, 85 + work));
        return duty;
    }

    private static void giveOn(DutyDesk x, int driver, int duty, int... days) {
        for (int day : days) {
            x.give(driver, day, duty);
        }
    }

    private static void dueDay(String call, DutyDesk x, int day, int... duties) {
        for (int driver = 0; driver < duties.length; driver++) {
            CHECK.due(call + ": driver " + driver, x.given(driver, day), duties[driver]);
        }
    }

    private static void addDriver() {
        DutyDesk x = new DutyDesk();
        for (int driver = 0; driver < 8; driver++) {
            CHECK.due("addDriver", x.addDriver(), driver);
            CHECK.due("count(2)", x.count(2), driver + 1);
            for (int day = 0; day < 7; day++) {
                CHECK.due("a new driver has no duty", x.given(driver, day), -1);
            }
            CHECK.due("a new driver has no pay", x.week(driver), 0);
        }
        CHECK.badState(x, "addDriver of a 9th", () -> x.addDriver());
        CHECK.due("count(2)", x.count(2), 8);
    }

    private static void reasonsOfTheDuty() {
        DutyDesk x = deskOf(t(100, 200), t(300, 300 + 101));
        x.addDuty();
        x.addDriver();
        CHECK.due("reason: no trips", x.reason(0, 0, 2), 1);
        CHECK.badState(x, "give: no trips", () -> x.give(0, 0, 2));
        x.setRules(100, 1000, 90, 0);
        CHECK.due("reason: not right", x.reason(0, 0, 1), 2);
        CHECK.badState(x, "give: not right", () -> x.give(0, 0, 1));
        CHECK.due("reason: none", x.reason(0, 0, 0), 0);
        x.setRules(101, 1000, 90, 0);
        CHECK.due("reason: none", x.reason(0, 0, 1), 0);
        CHECK.due("reason gives nothing", x.given(0, 0), -1);
    }

    private static void reasonOfTheDay() {
        DutyDesk x = deskOf(t(100, 200), t(300, 400));
        x.addDriver();
        x.addDriver();
        x.give(1, 3, 0);
        CHECK.due("reason: a driver has it", x.reason(0, 3, 0), 3);
        CHECK.due("reason: the driver itself has it", x.reason(1, 3, 0), 3);
        CHECK.badState(x, "give: a driver has it", () -> x.give(0, 3, 0));
        CHECK.due("reason: it is free on other days", x.reason(0, 2, 0), 0);
        CHECK.due("reason: the driver has one", x.reason(1, 3, 1), 4);
        CHECK.badState(x, "give: the driver has one", () -> x.give(1, 3, 1));
        CHECK.due("reason: the driver is free on other days", x.reason(1, 4, 1), 0);
        CHECK.due("reason: another driver", x.reason(0, 3, 1), 0);
    }

    private static void sixDays() {
        int[][] before = {{0, 1, 2, 3, 4}, {1, 2, 3, 4, 5}, {0, 1, 3, 4, 5}, {2, 3, 4, 5, 6},
            {0, 1, 2, 4, 5, 6}, {1, 2, 3, 5, 6}, {0, 1, 2, 4, 5}};
        int[][] due = {{-1, -1, -1, -1, -1, 5, 0}, {5, -1, -1, -1, -1, -1, 5},
            {-1, -1, 5, -1, -1, -1, 0}, {0, 5, -1, -1, -1, -1, -1},
            {-1, -1, -1, 5, -1, -1, -1}, {0, -1, -1, -1, 5, -1, -1}, {-1, -1, -1, 5, -1, -1, 0}};
        for (int i = 0; i < before.length; i++) {
            DutyDesk x = deskOf(t(100, 200));
            x.addDriver();
            giveOn(x, 0, 0, before[i]);
            for (int day = 0; day < 7; day++) {
                if (due[i][day] >= 0) {
                    CHECK.due("reason: six days " + i, x.reason(0, day, 0), due[i][day]);
                }
                if (due[i][day] == 5) {
                    int full = day;
                    CHECK.badState(x, "give: six days", () -> x.give(0, full, 0));
                }
            }
        }
    }

    private static void weekPayLimit() {
        DutyDesk x = new DutyDesk();
        x.setRules(600, 1000, 90, 0);
        addLongDuty(x, 480);
        addLongDuty(x, 481);
        x.addDriver();
        giveOn(x, 0, 0, 0, 1, 2, 4, 5);
        CHECK.due("week", x.week(0), 2400);
        CHECK.due("reason: pay 2881", x.reason(0, 6, 1), 6);
        CHECK.badState(x, "give: pay 2881", () -> x.give(0, 6, 1));
        CHECK.due("reason: pay 2880", x.reason(0, 6, 0), 0);
        CHECK.due("give: pay 2880", x.give(0, 6, 0), 2880);
    }

    private static void leastRest() {
        DutyDesk x = deskOf(t(400, 500), t(1000, 1165), t(1000, 1166), t(1600, 1799));
        x.setRules(600, 1000, 90, 660);
        x.addDriver();
        x.give(0, 3, 0);
        CHECK.due("reason: rest 660 on the day before", x.reason(0, 2, 1), 0);
        CHECK.due("reason: rest 659 on the day before", x.reason(0, 2, 2), 7);
        CHECK.badState(x, "give: rest 659 on the day before", () -> x.give(0, 2, 2));
        CHECK.due("reason: enough rest on the day behind", x.reason(0, 4, 2), 0);
        CHECK.due("reason: two days ahead", x.reason(0, 1, 3), 0);
        x.takeBack(0, 3);
        x.give(0, 2, 1);
        CHECK.due("reason: rest 660 on the day behind", x.reason(0, 3, 0), 0);
        x.takeBack(0, 2);
        x.give(0, 2, 2);
        CHECK.due("reason: rest 659 on the day behind", x.reason(0, 3, 0), 7);
        CHECK.badState(x, "give: rest 659 on the day behind", () -> x.give(0, 3, 0));
        x.setRules(600, 1000, 90, 659);
        CHECK.due("reason: the least rest is 659", x.reason(0, 3, 0), 0);
        x.give(0, 4, 0);
        x.setRules(600, 1000, 90, 0);
        CHECK.due("reason: rest of 1590 + 1440 - 1171", x.reason(0, 3, 3), 0);
        x.setRules(600, 1000, 90, 26);
        CHECK.due("reason: rest 26", x.reason(0, 3, 3), 0);
        x.setRules(600, 1000, 90, 27);
        CHECK.due("reason: rest 26 is less than 27", x.reason(0, 3, 3), 7);
        CHECK.due("reason: the last day has none behind", x.reason(0, 6, 3), 0);
        CHECK.due("reason: the first day has none before", x.reason(0, 0, 0), 0);
    }

    private static void firstLeastRest() {
        DutyDesk x = new DutyDesk();
        x.put(x.addDuty(), x.addTrip(0, 0, 400, 500));
        x.put(x.addDuty(), x.addTrip(0, 0, 1000, 1165));
        x.put(x.addDuty(), x.addTrip(0, 0, 1000, 1166));
        x.addDriver();
        x.give(0, 1, 0);
        CHECK.due("reason: rest 660 of a new desk", x.reason(0, 0, 1), 0);
        CHECK.due("reason: rest 659 of a new desk", x.reason(0, 0, 2), 7);
        x.takeBack(0, 1);
        CHECK.badArgument(x, "setRules with rest -1", () -> x.setRules(270, 720, 30, -1));
        x.give(0, 0, 2);
        CHECK.due("reason: rest 659 of a new desk", x.reason(0, 1, 0), 7);
        x.takeBack(0, 0);
        x.give(0, 0, 1);
        CHECK.due("reason: rest 660 of a new desk", x.reason(0, 1, 0), 0);
    }

    private static void firstReason() {
        DutyDesk x = new DutyDesk();
        x.setRules(600, 1000, 90, 0);
        addLongDuty(x, 541);
        addLongDuty(x, 541);
        x.addDuty();
        x.addDriver();
        x.addDriver();
        CHECK.due("pay", x.duty(0, 4), 571);
        giveOn(x, 0, 0, 0, 1, 2, 3, 4);
        giveOn(x, 1, 1, 0);
        CHECK.due("1 ahead of 4", x.reason(0, 0, 2), 1);
        CHECK.due("3 ahead of 4 and 6", x.reason(0, 0, 1), 3);
        CHECK.due("4 ahead of 6", x.reason(0, 1, 1), 4);
        CHECK.due("5 ahead of 6", x.reason(0, 5, 1), 5);
        x.setRules(600, 1000, 90, 900);
        CHECK.due("5 ahead of 6 and 7", x.reason(0, 5, 1), 5);
        x.takeBack(0, 0);
        CHECK.due("week", x.week(0), 2284);
        CHECK.due("7 alone", x.reason(0, 5, 1), 7);
        x.setRules(600, 1000, 90, 0);
        x.give(0, 6, 0);
        x.setRules(600, 1000, 90, 900);
        CHECK.due("3 ahead of 6 and 7", x.reason(0, 0, 1), 3);
        x.takeBack(1, 0);
        CHECK.due("6 ahead of 7", x.reason(0, 0, 1), 6);
        x.setRules(100, 1000, 90, 900);
        CHECK.due("2 ahead of 3", x.reason(1, 1, 0), 2);
        CHECK.due("2 ahead of 4", x.reason(0, 1, 1), 2);
        CHECK.due("1 ahead of all", x.reason(0, 1, 2), 1);
    }

    private static void wrongNumbers() {
        DutyDesk x = deskOf(t(100, 200));
        x.addDriver();
        x.give(0, 2, 0);
        for (int wrong : FAR) {
            noSuchDriver(x, wrong);
            noSuchDay(x, wrong);
            noSuchDuty(x, wrong);
        }
        noSuchDriver(x, 1);
        noSuchDay(x, 7);
        noSuchDuty(x, 1);
        CHECK.noSuch(x, "rest(0, 0)", () -> x.rest(0, 0));
    }

    private static void noSuchDriver(DutyDesk x, int wrong) {
        CHECK.noSuch(x, "reason, driver " + wrong, () -> x.reason(wrong, 0, 0));
        CHECK.noSuch(x, "give, driver " + wrong, () -> x.give(wrong, 0, 0));
        CHECK.noSuch(x, "takeBack, driver " + wrong, () -> x.takeBack(wrong, 0));
        CHECK.noSuch(x, "given, driver " + wrong, () -> x.given(wrong, 0));
        CHECK.noSuch(x, "week, driver " + wrong, () -> x.week(wrong));
        CHECK.noSuch(x, "rest, driver " + wrong, () -> x.rest(wrong, 1));
    }

    private static void noSuchDay(DutyDesk x, int wrong) {
        CHECK.noSuch(x, "reason, day " + wrong, () -> x.reason(0, wrong, 0));
        CHECK.noSuch(x, "give, day " + wrong, () -> x.give(0, wrong, 0));
        CHECK.noSuch(x, "takeBack, day " + wrong, () -> x.takeBack(0, wrong));
        CHECK.noSuch(x, "given, day " + wrong, () -> x.given(0, wrong));
        CHECK.noSuch(x, "fill, day " + wrong, () -> x.fill(wrong));
        CHECK.noSuch(x, "rest, day " + wrong, () -> x.rest(0, wrong));
    }

    private static void noSuchDuty(DutyDesk x, int wrong) {
        CHECK.noSuch(x, "reason, duty " + wrong, () -> x.reason(0, 0, wrong));
        CHECK.noSuch(x, "reason, duty " + wrong + " on a taken day", () -> x.reason(0, 2, wrong));
        CHECK.noSuch(x, "give, duty " + wrong, () -> x.give(0, 0, wrong));
        CHECK.noSuch(x, "give, duty " + wrong + " on a taken day", () -> x.give(0, 2, wrong));
    }

    private static void give() {
        DutyDesk x = deskOf(t(100, 200));
        int duty = addLongDuty(x, 482);
        x.addDriver();
        x.addDriver();
        CHECK.due("give(1, 0, 0)", x.give(1, 0, 0), 360);
        CHECK.due("give(1, 6, long)", x.give(1, 6, duty), 360 + 483);
        CHECK.due("give(0, 6, 0)", x.give(0, 6, 0), 360);
        dueDay("give, day 0", x, 0, -1, 0);
        dueDay("give, day 1", x, 1, -1, -1);
        dueDay("give, day 6", x, 6, 0, duty);
    }

    private static void takeBack() {
        DutyDesk x = deskOf(t(100, 200), t(300, 400));
        x.addDriver();
        x.addDriver();
        x.give(0, 0, 0);
        x.give(0, 1, 1);
        x.give(1, 1, 0);
        CHECK.badState(x, "takeBack where there is none", () -> x.takeBack(0, 2));
        CHECK.badState(x, "takeBack where another has one", () -> x.takeBack(1, 0));
        CHECK.due("takeBack(0, 1)", x.takeBack(0, 1), 1);
        dueDay("takeBack, day 0", x, 0, 0, -1);
        dueDay("takeBack, day 1", x, 1, -1, 0);
        CHECK.due("week", x.week(0), 360);
        CHECK.badState(x, "takeBack again", () -> x.takeBack(0, 1));
        CHECK.due("takeBack(0, 0)", x.takeBack(0, 0), 0);
        CHECK.due("duty(1, 8)", x.duty(1, 8), 0);
        CHECK.due("duty(0, 8)", x.duty(0, 8), 1);
    }

    private static void fillByLeastPay() {
        DutyDesk x = deskOf(t(100, 200), t(300, 400), t(500, 600));
        for (int driver = 0; driver < 4; driver++) {
            x.addDriver();
        }
        x.give(0, 0, 0);
        x.give(0, 1, 0);
        x.give(1, 0, 1);
        CHECK.due("fill(3)", x.fill(3), 0);
        dueDay("fill: of the least pay the smallest number", x, 3, -1, 2, 0, 1);
        CHECK.due("fill(3) again", x.fill(3), 0);
        dueDay("fill(3) again", x, 3, -1, 2, 0, 1);
        CHECK.due("fill(4)", x.fill(4), 0);
        dueDay("fill: driver 1 and 0 have the same pay", x, 4, 2, -1, 0, 1);
    }

    private static void fillInOrder() {
        // By begin: duty 2 (90), then duties 0 and 3 (290), then duty 1 (490).
        DutyDesk x = deskOf(t(300, 400), t(500, 600), t(100, 200), t(300, 350));
        for (int driver = 0; driver < 5; driver++) {
            x.addDriver();
        }
        CHECK.due("fill(0)", x.fill(0), 0);
        dueDay("fill: in ascending order of begins", x, 0, 2, 0, 3, 1, -1);

        // The way from the depot makes the begin of the later trip the earlier one.
        DutyDesk y = new DutyDesk();
        y.setWay(0, 1, 90);
        y.put(y.addDuty(), y.addTrip(0, 0, 40, 100));
        y.put(y.addDuty(), y.addTrip(1, 0, 60, 120));
        y.addDriver();
        y.addDriver();
        CHECK.due("fill(6)", y.fill(6), 0);
        dueDay("fill: by begin, not by departure", y, 6, 1, 0);
    }

    private static void fillLeavesWhatCannotBeGiven() {
        DutyDesk x = deskOf(t(100, 200), t(300, 450), t(500, 600), t(700, 800));
        x.addDuty();
        x.addDriver();
        x.addDriver();
        x.setRules(100, 1000, 90, 0);
        CHECK.due("fill: duty 1 is not right, duty 3 has no driver", x.fill(0), 2);
        dueDay("fill(0)", x, 0, 0, 2);
        x.addDriver();
        CHECK.due("fill: duty 1 is left", x.fill(0), 1);
        dueDay("fill(0)", x, 0, 0, 2, 3);
        CHECK.due("fill without drivers", deskOf(t(100, 200)).fill(0), 1);

        // Driver 0 has the least pay, but too little rest.
        DutyDesk y = deskOf(t(100, 200), t(1000, 1200));
        y.setRules(600, 1000, 90, 660);
        y.addDriver();
        y.addDriver();
        y.give(1, 3, 0);
        y.give(1, 5, 0);
        y.give(0, 0, 1);
        CHECK.due("fill(1)", y.fill(1), 0);
        dueDay("fill: duty 1 begins later", y, 1, 1, 0);
    }

    private static void weekAndRest() {
        DutyDesk x = deskOf(t(400, 500), t(800, 900));
        int late = addLongDuty(x, 500);
        x.addDriver();
        x.addDriver();
        x.give(0, 0, 0);
        x.give(0, 1, 1);
        x.give(0, 3, late);
        CHECK.due("week(0)", x.week(0), 360 + 360 + 510);
        CHECK.due("week(1)", x.week(1), 0);
        CHECK.due("rest(0, 1)", x.rest(0, 1), 790 + 1440 - 505);
        CHECK.due("rest: none on this day", x.rest(0, 2), -1);
        CHECK.due("rest: none on the day before", x.rest(0, 3), -1);
        CHECK.due("rest: none on both", x.rest(0, 6), -1);
        CHECK.due("rest: another driver", x.rest(1, 1), -1);
        x.give(0, 2, 0);
        CHECK.due("rest(0, 2)", x.rest(0, 2), 390 + 1440 - 905);
        CHECK.due("rest(0, 3)", x.rest(0, 3), 90 + 1440 - 505);
        x.give(1, 5, 0);
        x.give(1, 6, 0);
        CHECK.due("rest(1, 6)", x.rest(1, 6), 390 + 1440 - 505);
    }

    private static void rulesChangeNothingGiven() {
        DutyDesk x = new DutyDesk();
        x.addTrip(0, 1, 100, 200);
        x.put(x.addDuty(), 0);
        x.addDriver();
        x.give(0, 0, 0);
        x.give(0, 1, 0);
        CHECK.due("rest(0, 1)", x.rest(0, 1), 90 + 1440 - 220);
        x.setWay(0, 1, 90);
        CHECK.due("rest after setWay", x.rest(0, 1), 90 + 1440 - 295);
        CHECK.due("a duty is not right any more", x.setRules(189, 720, 30, 900), 1);
        CHECK.due("it is still given", x.given(0, 1), 0);
        CHECK.due("it still counts", x.week(0), 720);
        CHECK.due("it is still fixed", x.duty(0, 8), 1);
        CHECK.due("reason", x.reason(0, 2, 0), 2);
        CHECK.due("takeBack", x.takeBack(0, 1), 0);
        CHECK.badState(x, "give of a duty that is not right", () -> x.give(0, 1, 0));
    }

    private static void digest() {
        DutyDesk x = deskOf(t(100, 200), t(300, 450));
        x.addTrip(2, 3, 700, 800);
        x.addDuty();
        x.setRules(149, 1000, 90, 0);
        x.addDriver();
        x.addDriver();
        x.give(1, 4, 0);
        CHECK.due("digest", x.digest(), digestFromAnswers(x));
        long first = x.digest();
        CHECK.due("digest changes nothing", x.digest(), first);
        x.takeBack(1, 4);
        CHECK.due("digest", x.digest(), digestFromAnswers(x));
        DutyDesk one = deskOf(t(100, 200));
        CHECK.due("digest of one trip in one duty", one.digest(), digestOf(1, 0, 0, 100, 200, 0,
                1, 1, 90, 205, 115, 360, 0, 100, 1, 0, 0));
    }

    private static long digestOf(long... numbers) {
        long d = 311;
        for (long number : numbers) {
            d = d * 31 + number;
        }
        return d;
    }

    private static long digestFromAnswers(DutyDesk x) {
        long d = 311 * 31 + x.count(0);
        for (int trip = 0; trip < x.count(0); trip++) {
            for (int what = 0; what <= 4; what++) {
                d = d * 31 + x.trip(trip, what);
            }
        }
        d = d * 31 + x.count(1);
        for (int duty = 0; duty < x.count(1); duty++) {
            for (int what = 0; what <= 8; what++) {
                d = d * 31 + x.duty(duty, what);
            }
        }
        d = d * 31 + x.count(2);
        for (int driver = 0; driver < x.count(2); driver++) {
            for (int day = 0; day < 7; day++) {
                d = d * 31 + x.given(driver, day);
            }
        }
        return d;
    }
}
