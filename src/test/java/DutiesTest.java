/** Promises 7 to 17: addDuty to use, in the document's order. */
public final class DutiesTest {

    private static final Check CHECK = new Check("DutiesTest");
    private static final int[] FAR = {-1, Integer.MIN_VALUE, Integer.MAX_VALUE};

    public static void main(String[] args) {
        addDuty();
        put();
        putRefuses();
        putKeepsLimits();
        putIntoWhatIsNotRight();
        fixedDutiesStay();
        takeOut();
        takeOutRefuses();
        takeOutKeepsLimits();
        dutyFacts();
        dutyFactsOfOneTrip();
        payOfDuty();
        dutyRefuses();
        tripAt();
        bestForLeastRise();
        bestForFallingPay();
        bestForRefuses();
        planInOrder();
        planMakesDuties();
        planMakesNoWrongDuty();
        swap();
        swapRefuses();
        swapKeepsLimits();
        improve();
        improveOfSeveral();
        improveTakesEarliestTime();
        improveNothing();
        payAndUse();
        CHECK.end();
    }

    /** A desk with wide rules (driving 600, spread 1000, break 30), and its trips at the depot. */
    private static DutyDesk wideDesk(int[]... times) {
        DutyDesk x = new DutyDesk();
        x.setRules(600, 1000, 30, 0);
        for (int[] time : times) {
            x.addTrip(0, 0, time[0], time[1]);
        }
        return x;
    }

    private static int[] t(int departure, int arrival) {
        return new int[] {departure, arrival};
    }

    private static void putAll(DutyDesk x, int duty, int... trips) {
        for (int trip : trips) {
            x.put(duty, trip);
        }
    }

    private static void dueRow(String call, DutyDesk x, int duty, int... trips) {
        CHECK.due(call + ": trips", x.duty(duty, 0), trips.length);
        for (int place = 0; place < trips.length && place < x.duty(duty, 0); place++) {
            CHECK.due(call + ": place " + place, x.tripAt(duty, place), trips[place]);
            CHECK.due(call + ": its duty", x.trip(trips[place], 4), duty);
        }
    }

    private static void addDuty() {
        DutyDesk x = new DutyDesk();
        for (int duty = 0; duty < 12; duty++) {
            CHECK.due("addDuty", x.addDuty(), duty);
            CHECK.due("count(1)", x.count(1), duty + 1);
            dueRow("a new duty", x, duty);
        }
        CHECK.badState(x, "addDuty of a 13th", () -> x.addDuty());
        CHECK.due("count(1)", x.count(1), 12);
    }

    private static void put() {
        DutyDesk x = wideDesk(t(300, 310), t(200, 210), t(400, 410), t(250, 260), t(100, 110));
        x.addDuty();
        CHECK.due("put(0, 0)", x.put(0, 0), 0);
        CHECK.due("put(0, 1), ahead", x.put(0, 1), 0);
        CHECK.due("put(0, 2), behind", x.put(0, 2), 2);
        CHECK.due("put(0, 3), between", x.put(0, 3), 1);
        CHECK.due("put(0, 4), ahead", x.put(0, 4), 0);
        dueRow("put", x, 0, 4, 1, 3, 0, 2);
    }

    private static void putRefuses() {
        DutyDesk x = wideDesk(t(300, 320), t(300, 310), t(330, 340));
        x.addTrip(1, 0, 335, 345);
        x.addTrip(1, 0, 334, 345);
        x.addDuty();
        x.addDuty();
        x.put(0, 0);
        CHECK.badState(x, "put of a trip that is in this duty", () -> x.put(0, 0));
        CHECK.badState(x, "put of a trip that is in a duty", () -> x.put(1, 0));
        CHECK.badState(x, "put of the same departure", () -> x.put(0, 1));
        CHECK.badState(x, "put with an idle time of -1", () -> x.put(0, 4));
        CHECK.due("put with an idle time of 0", x.put(0, 3), 1);
        CHECK.badState(x, "put between with idle times less than 0", () -> x.put(0, 2));
        for (int wrong : FAR) {
            CHECK.noSuch(x, "put(" + wrong + ", 1)", () -> x.put(wrong, 1));
            CHECK.noSuch(x, "put(0, " + wrong + ")", () -> x.put(0, wrong));
        }
        CHECK.noSuch(x, "put(2, 1)", () -> x.put(2, 1));
        CHECK.noSuch(x, "put(0, 5)", () -> x.put(0, 5));
        CHECK.noSuch(x, "put(2, 0), no duty is named first", () -> x.put(2, 0));
    }

    private static void putKeepsLimits() {
        DutyDesk x = new DutyDesk();
        x.addTrip(1, 1, 100, 300);
        x.addTrip(1, 2, 310, 350);
        x.addTrip(1, 2, 310, 351);
        x.addDuty();
        x.put(0, 0);
        CHECK.badState(x, "put with driving 271, the ways with it", () -> x.put(0, 2));
        CHECK.due("put with driving 270, the ways with it", x.put(0, 1), 1);
        CHECK.due("driving", x.duty(0, 6), 270);
        x.addTrip(2, 3, 780, 785);
        x.addTrip(2, 3, 780, 786);
        x.setRules(270, 730, 30, 660);
        CHECK.badState(x, "put with spread 731", () -> x.put(0, 4));
        CHECK.due("put with spread 730", x.put(0, 3), 2);
        CHECK.due("begin", x.duty(0, 1), 75);
        CHECK.due("end", x.duty(0, 2), 805);
    }

    private static void putIntoWhatIsNotRight() {
        DutyDesk x = wideDesk(t(100, 200), t(250, 300), t(210, 220), t(400, 500));
        putAllIntoNewDuty(x, 0, 1);
        x.setRules(99, 1000, 30, 0);
        CHECK.due("duty(0, 7)", x.duty(0, 7), 0);
        CHECK.badState(x, "put, and it stays not right", () -> x.put(0, 3));
        CHECK.badState(x, "takeOut, and it stays not right", () -> x.takeOut(1));
        CHECK.due("takeOut, and it becomes right", x.takeOut(0), 0);
        CHECK.due("duty(0, 7)", x.duty(0, 7), 1);

        // The trip from 1 to 2 takes less than the way that is set between them.
        DutyDesk y = new DutyDesk();
        y.addTrip(0, 1, 100, 200);
        y.addTrip(2, 0, 220, 300);
        y.addTrip(1, 2, 205, 210);
        putAllIntoNewDuty(y, 0, 1);
        y.setWay(1, 2, 21);
        CHECK.due("duty(0, 7)", y.duty(0, 7), 0);
        CHECK.due("bestFor: it becomes right", y.bestFor(2), 0);
        CHECK.due("put, and it becomes right", y.put(0, 2), 1);
        CHECK.due("duty(0, 7)", y.duty(0, 7), 1);
    }

    private static void putAllIntoNewDuty(DutyDesk x, int... trips) {
        putAll(x, x.addDuty(), trips);
    }

    private static void fixedDutiesStay() {
        DutyDesk x = wideDesk(t(100, 200), t(300, 400), t(500, 600));
        putAllIntoNewDuty(x, 0, 1);
        x.addDuty();
        x.addDriver();
        x.addDriver();
        x.give(1, 6, 0);
        x.give(0, 0, 0);
        CHECK.due("duty(0, 8)", x.duty(0, 8), 1);
        CHECK.due("duty(1, 8)", x.duty(1, 8), 0);
        CHECK.badState(x, "put into a fixed duty", () -> x.put(0, 2));
        CHECK.badState(x, "takeOut of a fixed duty", () -> x.takeOut(0));
        CHECK.badState(x, "swap of a fixed duty", () -> x.swap(0, 1, 200));
        CHECK.badState(x, "swap with a fixed duty", () -> x.swap(1, 0, 200));
        CHECK.badState(x, "swap that would change nothing", () -> x.swap(1, 0, 9999));
        CHECK.due("bestFor", x.bestFor(2), 1);
        x.takeBack(0, 0);
        CHECK.due("duty(0, 8), given on another day", x.duty(0, 8), 1);
        CHECK.badState(x, "put into a fixed duty", () -> x.put(0, 2));
        x.takeBack(1, 6);
        CHECK.due("duty(0, 8)", x.duty(0, 8), 0);
        CHECK.due("bestFor", x.bestFor(2), 0);
        CHECK.due("put", x.put(0, 2), 2);
    }

    private static void takeOut() {
        DutyDesk x = wideDesk(t(100, 110), t(200, 210), t(300, 310), t(400, 410));
        x.addDuty();
        putAllIntoNewDuty(x, 3, 1, 2, 0);
        CHECK.due("takeOut(1)", x.takeOut(1), 1);
        dueRow("takeOut(1)", x, 1, 0, 2, 3);
        CHECK.due("trip(1, 4)", x.trip(1, 4), -1);
        CHECK.due("takeOut(0)", x.takeOut(0), 1);
        dueRow("takeOut(0)", x, 1, 2, 3);
        CHECK.due("begin", x.duty(1, 1), 290);
        CHECK.due("takeOut(3)", x.takeOut(3), 1);
        CHECK.due("end", x.duty(1, 2), 315);
        CHECK.due("takeOut(2), the last", x.takeOut(2), 1);
        for (int what = 0; what < 9; what++) {
            CHECK.due("without trips, " + what, x.duty(1, what), what == 7 ? 1 : 0);
        }
        CHECK.due("put(0, 2), into another", x.put(0, 2), 0);
    }

    private static void takeOutRefuses() {
        DutyDesk x = wideDesk(t(100, 110), t(200, 210));
        putAllIntoNewDuty(x, 0);
        CHECK.badState(x, "takeOut of a trip that is in no duty", () -> x.takeOut(1));
        for (int wrong : FAR) {
            CHECK.noSuch(x, "takeOut(" + wrong + ")", () -> x.takeOut(wrong));
        }
        CHECK.noSuch(x, "takeOut(2)", () -> x.takeOut(2));
    }

    private static void takeOutKeepsLimits() {
        DutyDesk x = new DutyDesk();
        // Without the trip between, the way from 1 to 2 is longer than the time for it.
        x.setWay(1, 2, 90);
        x.addTrip(0, 1, 100, 140);
        x.addTrip(1, 2, 140, 180);
        x.addTrip(2, 0, 200, 240);
        putAllIntoNewDuty(x, 0, 1, 2);
        CHECK.badState(x, "takeOut with an idle time of -30", () -> x.takeOut(1));
        x.setWay(1, 2, 60);
        CHECK.due("takeOut with an idle time of 0", x.takeOut(1), 0);
        CHECK.due("driving", x.duty(0, 6), 140);

        // Without the trip ahead, the way from the depot makes the driving greater.
        DutyDesk y = new DutyDesk();
        y.setWay(0, 1, 90);
        y.setWay(0, 2, 1);
        y.setWay(1, 2, 1);
        y.addTrip(2, 2, 100, 101);
        y.addTrip(1, 0, 110, 300);
        putAllIntoNewDuty(y, 0, 1);
        CHECK.due("driving", y.duty(0, 6), 193);
        y.setRules(279, 720, 30, 660);
        CHECK.badState(y, "takeOut with driving 280", () -> y.takeOut(0));
        y.setRules(280, 720, 30, 660);
        CHECK.due("takeOut with driving 280", y.takeOut(0), 0);
        CHECK.due("begin", y.duty(0, 1), 10);
    }

    private static void dutyFacts() {
        DutyDesk x = new DutyDesk();
        x.setWay(0, 1, 20);
        x.setWay(4, 5, 25);
        x.setWay(2, 0, 40);
        x.addTrip(1, 2, 400, 460);
        x.addTrip(3, 4, 480, 540);
        x.addTrip(5, 1, 600, 660);
        x.addTrip(1, 0, 690, 720);
        x.addTrip(0, 2, 749, 800);
        putAllIntoNewDuty(x, 0, 1, 2, 3, 4);
        // Stretches: trips 0 and 1 (20+60+15+60), trip 2 (25+60), trips 3 and 4 (30+51+40).
        long[] due = {5, 370, 845, 475 - 65, 410, 2, 155, 1, 0};
        for (int what = 0; what < due.length; what++) {
            CHECK.due("duty(0, " + what + ")", x.duty(0, what), due[what]);
        }
        x.setRules(154, 720, 30, 660);
        CHECK.due("driving limit 154", x.duty(0, 7), 0);
        x.setRules(155, 475, 30, 660);
        CHECK.due("driving limit 155, spread limit 475", x.duty(0, 7), 1);
        x.setRules(155, 474, 30, 660);
        CHECK.due("spread limit 474", x.duty(0, 7), 0);
        x.setRules(270, 720, 31, 660);
        CHECK.due("least break 31: breaks", x.duty(0, 5), 1);
        CHECK.due("least break 31: work", x.duty(0, 3), 440);
        CHECK.due("least break 31: driving", x.duty(0, 6), 25 + 60 + 30 + 51 + 40);
        x.setRules(270, 720, 29, 660);
        CHECK.due("least break 29: breaks", x.duty(0, 5), 3);
        CHECK.due("least break 29: work", x.duty(0, 3), 381);
    }

    private static void dutyFactsOfOneTrip() {
        DutyDesk x = new DutyDesk();
        x.setWay(0, 3, 11);
        x.setWay(0, 4, 22);
        x.addTrip(3, 4, 5, 100);
        putAllIntoNewDuty(x, 0);
        long[] due = {1, -16, 127, 143, 360, 0, 128, 1, 0};
        for (int what = 0; what < due.length; what++) {
            CHECK.due("duty(0, " + what + ")", x.duty(0, what), due[what]);
        }
    }

    private static void payOfDuty() {
        int[][] workAndPay = {
            {260, 360}, {359, 360}, {360, 360}, {361, 361}, {479, 479}, {480, 480}, {481, 481},
            {482, 483}, {483, 484}, {484, 486}, {495, 502},
        };
        for (int[] due : workAndPay) {
            DutyDesk x = wideDesk(t(100, 340), t(340, due[0] + 85));
            putAllIntoNewDuty(x, 0, 1);
            CHECK.due("work", x.duty(0, 3), due[0]);
            CHECK.due("pay of work " + due[0], x.duty(0, 4), due[1]);
        }
    }

    private static void dutyRefuses() {
        DutyDesk x = wideDesk(t(100, 110));
        putAllIntoNewDuty(x, 0);
        for (int wrong : FAR) {
            CHECK.noSuch(x, "duty(" + wrong + ", 0)", () -> x.duty(wrong, 0));
            CHECK.noSuch(x, "duty(0, " + wrong + ")", () -> x.duty(0, wrong));
        }
        CHECK.noSuch(x, "duty(1, 0)", () -> x.duty(1, 0));
        CHECK.noSuch(x, "duty(0, 9)", () -> x.duty(0, 9));
    }

    private static void tripAt() {
        DutyDesk x = wideDesk(t(200, 210), t(100, 110));
        x.addDuty();
        putAllIntoNewDuty(x, 0, 1);
        CHECK.due("tripAt(1, 0)", x.tripAt(1, 0), 1);
        CHECK.due("tripAt(1, 1)", x.tripAt(1, 1), 0);
        for (int wrong : FAR) {
            CHECK.noSuch(x, "tripAt(" + wrong + ", 0)", () -> x.tripAt(wrong, 0));
            CHECK.noSuch(x, "tripAt(1, " + wrong + ")", () -> x.tripAt(1, wrong));
        }
        CHECK.noSuch(x, "tripAt(0, 0)", () -> x.tripAt(0, 0));
        CHECK.noSuch(x, "tripAt(1, 2)", () -> x.tripAt(1, 2));
        CHECK.noSuch(x, "tripAt(2, 0)", () -> x.tripAt(2, 0));
        x.takeOut(1);
        CHECK.due("tripAt(1, 0)", x.tripAt(1, 0), 0);
        CHECK.noSuch(x, "tripAt(1, 1)", () -> x.tripAt(1, 1));
    }

    private static void bestForLeastRise() {
        DutyDesk x = wideDesk(t(100, 340), t(340, 460), t(500, 505), t(600, 620), t(510, 520));
        x.addDuty();
        putAllIntoNewDuty(x, 0, 1);
        CHECK.due("bestFor: rise 20 is less than 360", x.bestFor(4), 1);
        putAllIntoNewDuty(x, 2);
        CHECK.due("bestFor: rise 0", x.bestFor(4), 2);
        putAllIntoNewDuty(x, 3);
        CHECK.due("bestFor: of the same rise the smallest number", x.bestFor(4), 2);
        CHECK.due("bestFor of a trip in a duty", x.bestFor(3), -1);
        x.takeOut(2);
        CHECK.due("bestFor", x.bestFor(4), 3);
        x.takeOut(3);
        CHECK.due("bestFor", x.bestFor(4), 1);
        x.put(1, 4);
        CHECK.due("bestFor: of the same rise the smallest number", x.bestFor(3), 1);
        CHECK.due("bestFor puts nothing", x.trip(3, 4), -1);
    }

    private static void bestForFallingPay() {
        DutyDesk x = new DutyDesk();
        x.setRules(600, 1000, 30, 0);
        x.setWay(1, 2, 90);
        x.setWay(1, 3, 1);
        x.setWay(3, 2, 1);
        x.addTrip(3, 3, 345, 350);
        x.addTrip(0, 0, 400, 410);
        x.addTrip(0, 1, 100, 340);
        x.addTrip(2, 0, 450, 690);
        putAllIntoNewDuty(x, 1);
        putAllIntoNewDuty(x, 2, 3);
        CHECK.due("pay ahead", x.duty(1, 4), 667);
        CHECK.due("bestFor: a rise of -148 is less than 0", x.bestFor(0), 1);
        x.put(1, 0);
        CHECK.due("pay behind", x.duty(1, 4), 519);
    }

    private static void bestForRefuses() {
        DutyDesk x = wideDesk(t(100, 200), t(150, 250), t(100, 110));
        CHECK.due("bestFor without duties", x.bestFor(0), -1);
        putAllIntoNewDuty(x, 0);
        CHECK.due("bestFor: idle time less than 0", x.bestFor(1), -1);
        CHECK.due("bestFor: the same departure", x.bestFor(2), -1);
        CHECK.due("bestFor of a trip in a duty", x.bestFor(0), -1);
        for (int wrong : FAR) {
            CHECK.noSuch(x, "bestFor(" + wrong + ")", () -> x.bestFor(wrong));
        }
        CHECK.noSuch(x, "bestFor(3)", () -> x.bestFor(3));
        x.addDuty();
        CHECK.due("bestFor: a duty without trips", x.bestFor(1), 1);
    }

    private static void planInOrder() {
        DutyDesk x = wideDesk(t(200, 300), t(150, 250), t(100, 200), t(150, 160), t(310, 320));
        CHECK.due("plan", x.plan(), 0);
        CHECK.due("count(1)", x.count(1), 3);
        dueRow("plan: trip 2 departs first", x, 0, 2, 0, 4);
        dueRow("plan: trip 1 has the smaller number", x, 1, 1);
        dueRow("plan: trip 3 has the same departure", x, 2, 3);
        CHECK.due("plan again", x.plan(), 0);
        CHECK.due("count(1)", x.count(1), 3);
        CHECK.due("takeOut", x.takeOut(0), 0);
        CHECK.due("plan puts it back", x.plan(), 0);
        dueRow("plan", x, 0, 2, 0, 4);
    }

    private static void planMakesDuties() {
        DutyDesk x = new DutyDesk();
        for (int trip = 0; trip < 14; trip++) {
            x.addTrip(0, 0, 100 + trip, 200 + trip);
        }
        x.addDuty();
        CHECK.due("plan: two trips are left", x.plan(), 2);
        CHECK.due("count(1)", x.count(1), 12);
        CHECK.due("count(3)", x.count(3), 2);
        for (int trip = 0; trip < 14; trip++) {
            CHECK.due("trip(" + trip + ", 4)", x.trip(trip, 4), trip < 12 ? trip : -1);
        }
    }

    private static void planMakesNoWrongDuty() {
        DutyDesk x = new DutyDesk();
        x.setRules(129, 720, 30, 660);
        x.addTrip(1, 2, 100, 200);
        x.addTrip(1, 2, 300, 399);
        CHECK.due("plan: driving 130 is too great", x.plan(), 1);
        CHECK.due("count(1)", x.count(1), 1);
        dueRow("plan", x, 0, 1);
        x.setRules(130, 720, 30, 660);
        CHECK.due("plan", x.plan(), 0);
        CHECK.due("count(1)", x.count(1), 1);
        dueRow("plan", x, 0, 0, 1);
    }

    private static void swap() {
        DutyDesk x = wideDesk(t(100, 220), t(220, 340), t(340, 460), t(460, 580), t(580, 685),
                t(90, 200), t(600, 610), t(690, 710));
        x.setRules(600, 1000, 90, 0);
        putAllIntoNewDuty(x, 0, 1, 2, 3, 4);
        putAllIntoNewDuty(x, 5, 6, 7);
        CHECK.due("pay", x.pay(), 660 + 360);
        // Duty 0 becomes 100 to 460 and 600 to 710 with a break of 140 (work 485); duty 1 becomes
        // 90 to 200 and 460 to 685 with a break of 260 (work 350).
        CHECK.due("swap(0, 1, 460)", x.swap(0, 1, 460), 487 + 360 - 1020);
        dueRow("swap(0, 1, 460)", x, 0, 0, 1, 2, 6, 7);
        dueRow("swap(0, 1, 460)", x, 1, 5, 3, 4);
        CHECK.due("pay", x.pay(), 847);
        CHECK.due("swap(1, 0, 341), back but for trip 2", x.swap(1, 0, 341), 1020 - 847);
        dueRow("swap(1, 0, 341)", x, 0, 0, 1, 2, 3, 4);
        dueRow("swap(1, 0, 341)", x, 1, 5, 6, 7);
        CHECK.due("swap of all", x.swap(0, 1, Integer.MIN_VALUE), 0);
        dueRow("swap of all", x, 1, 0, 1, 2, 3, 4);
        dueRow("swap of all", x, 0, 5, 6, 7);
        CHECK.due("swap of nothing", x.swap(0, 1, Integer.MAX_VALUE), 0);
        dueRow("swap of nothing", x, 0, 5, 6, 7);
        x.addDuty();
        CHECK.due("swap with a duty without trips", x.swap(2, 0, 690), 360);
        dueRow("swap with a duty without trips", x, 2, 7);
        dueRow("swap with a duty without trips", x, 0, 5, 6);
        CHECK.due("swap to a duty without trips", x.swap(2, 0, 0), 0);
        dueRow("swap to a duty without trips", x, 0, 7);
    }

    private static void swapRefuses() {
        DutyDesk x = wideDesk(t(100, 200), t(300, 400));
        putAllIntoNewDuty(x, 0);
        putAllIntoNewDuty(x, 1);
        for (int wrong : new int[] {-1, 2, Integer.MIN_VALUE, Integer.MAX_VALUE}) {
            CHECK.noSuch(x, "swap(" + wrong + ", 0, 5)", () -> x.swap(wrong, 0, 5));
            CHECK.noSuch(x, "swap(0, " + wrong + ", 5)", () -> x.swap(0, wrong, 5));
            CHECK.noSuch(x, "swap, no duty is named first", () -> x.swap(wrong, wrong, 5));
        }
        CHECK.badArgument(x, "swap(0, 0, 5)", () -> x.swap(0, 0, 5));
        x.addDriver();
        x.give(0, 0, 1);
        CHECK.badArgument(x, "the same duty is named before", () -> x.swap(1, 1, 5));
    }

    private static void swapKeepsLimits() {
        DutyDesk x = wideDesk(t(100, 200), t(300, 400), t(150, 280), t(290, 420), t(900, 1000));
        putAllIntoNewDuty(x, 0, 1);
        putAllIntoNewDuty(x, 2, 3);
        x.setRules(100, 1000, 30, 0);
        CHECK.badState(x, "swap of duties that stay not right", () -> x.swap(0, 1, 2000));
        x.setRules(600, 335, 30, 0);
        putAllIntoNewDuty(x, 4);
        CHECK.badState(x, "swap with spread too great", () -> x.swap(0, 2, 250));
        CHECK.badState(x, "swap with spread too great", () -> x.swap(2, 0, 250));
        CHECK.due("swap(0, 1, 250): spread 335", x.swap(0, 1, 250), 0);
        x.setRules(600, 334, 30, 0);
        CHECK.due("duty(0, 7)", x.duty(0, 7), 0);
        CHECK.due("swap, and both become right", x.swap(0, 1, 250), 0);

        DutyDesk y = wideDesk(t(100, 200), t(300, 400), t(150, 310), t(320, 420));
        putAllIntoNewDuty(y, 0, 1);
        putAllIntoNewDuty(y, 2, 3);
        CHECK.badState(y, "the second one is not right", () -> y.swap(0, 1, 300));
        CHECK.badState(y, "the first one is not right", () -> y.swap(1, 0, 300));
    }

    private static void improve() {
        DutyDesk x = wideDesk(t(100, 220), t(220, 340), t(340, 460), t(460, 580), t(580, 685),
                t(100, 200));
        x.setRules(600, 1000, 90, 0);
        putAllIntoNewDuty(x, 0, 1, 2, 3, 4);
        putAllIntoNewDuty(x, 5);
        CHECK.due("improve", x.improve(), 735 - 1020);
        dueRow("improve", x, 0, 0, 1, 2);
        dueRow("improve", x, 1, 5, 3, 4);
        CHECK.due("pay", x.pay(), 735);
        CHECK.due("improve: no more", x.improve(), 0);
        dueRow("improve: no more", x, 0, 0, 1, 2);
        CHECK.due("pay", x.pay(), 735);
    }

    /** Long duties of work 600, short ones of work 115; each pair of both kinds saves 285. */
    private static DutyDesk deskOf(boolean... isLong) {
        DutyDesk x = wideDesk();
        x.setRules(600, 1000, 90, 0);
        int trip = 0;
        for (boolean longOne : isLong) {
            int duty = x.addDuty();
            int parts = longOne ? 5 : 1;
            for (int part = 0; part < parts; part++) {
                int end = longOne ? 100 + 120 * (part + 1) - (part == 4 ? 15 : 0) : 200;
                x.addTrip(0, 0, 100 + 120 * part, end);
                x.put(duty, trip++);
            }
        }
        return x;
    }

    private static void improveOfSeveral() {
        DutyDesk x = deskOf(true, false, false);
        CHECK.due("improve: the smallest b", x.improve(), -285);
        dueRow("improve: the smallest b", x, 0, 0, 1, 2);
        dueRow("improve: the smallest b", x, 1, 5, 3, 4);
        dueRow("improve: the smallest b", x, 2, 6);

        DutyDesk y = deskOf(true, true, false);
        CHECK.due("improve: the smallest a", y.improve(), -285);
        dueRow("improve: the smallest a", y, 0, 0, 1, 2);
        dueRow("improve: the smallest a", y, 1, 5, 6, 7, 8, 9);
        dueRow("improve: the smallest a", y, 2, 10, 3, 4);

        DutyDesk z = deskOf(true, false, true, false);
        z.addDriver();
        z.give(0, 3, 0);
        CHECK.due("improve: a fixed duty stays", z.improve(), -285);
        dueRow("improve: a fixed duty stays", z, 0, 0, 1, 2, 3, 4);
        dueRow("improve: a fixed duty stays", z, 1, 5, 9, 10);
        dueRow("improve: a fixed duty stays", z, 2, 6, 7, 8);

        DutyDesk w = deskOf(true, false, false);
        w.addDriver();
        w.give(0, 3, 1);
        CHECK.due("improve: a fixed duty stays", w.improve(), -285);
        dueRow("improve: a fixed duty stays", w, 1, 5);
        dueRow("improve: a fixed duty stays", w, 2, 6, 3, 4);
    }

    private static void improveTakesEarliestTime() {
        // The times 300 (of duty 1), 400 (of duty 0) and 410 (of duty 1) all save 150.
        DutyDesk x = wideDesk(t(100, 110), t(400, 405), t(100, 200), t(200, 300), t(300, 399),
                t(410, 585));
        x.setRules(600, 1000, 90, 0);
        putAllIntoNewDuty(x, 0, 1);
        putAllIntoNewDuty(x, 2, 3, 4, 5);
        CHECK.due("improve", x.improve(), -150);
        dueRow("improve", x, 0, 0, 4, 5);
        dueRow("improve", x, 1, 2, 3, 1);
    }

    private static void improveNothing() {
        DutyDesk x = deskOf(false, false);
        CHECK.due("improve: an exchange that saves 0 is not made", x.improve(), 0);
        dueRow("improve", x, 0, 0);
        DutyDesk y = deskOf(true);
        CHECK.due("improve of one duty", y.improve(), 0);
        dueRow("improve of one duty", y, 0, 0, 1, 2, 3, 4);
        DutyDesk w = wideDesk(t(100, 220), t(300, 420), t(500, 620), t(700, 820));
        w.setRules(600, 1000, 90, 0);
        putAllIntoNewDuty(w, 0, 1, 2, 3);
        CHECK.due("improve makes no new duty", w.improve(), 0);
        dueRow("improve makes no new duty", w, 0, 0, 1, 2, 3);
        w.addDuty();
        CHECK.due("improve with a duty without trips", w.improve(), 720 - 862);
        dueRow("improve with a duty without trips", w, 0, 0, 1);
        dueRow("improve with a duty without trips", w, 1, 2, 3);
        DutyDesk z = deskOf(true, false);
        z.setRules(114, 1000, 90, 0);
        CHECK.due("improve: all would not be right", z.improve(), 0);
        dueRow("improve: all would not be right", z, 1, 5);
    }

    private static void payAndUse() {
        DutyDesk x = wideDesk(t(100, 340), t(340, 460), t(500, 505), t(600, 700));
        CHECK.due("pay without duties", x.pay(), 0);
        x.addDuty();
        x.addDuty();
        CHECK.due("pay without trips", x.pay(), 0);
        CHECK.due("use without trips in duties", x.use(), 0.0);
        x.put(0, 0);
        CHECK.due("pay", x.pay(), 360);
        CHECK.due("use", x.use(), 240.0 / 255.0);
        x.put(0, 1);
        x.put(1, 2);
        CHECK.due("pay", x.pay(), 375 + 360);
        CHECK.due("use", x.use(), 365.0 / (375.0 + 20.0));
        x.put(1, 3);
        CHECK.due("use, the breaks are no work", x.use(), 465.0 / (375.0 + 120.0));
        x.takeOut(0);
        x.takeOut(1);
        x.takeOut(2);
        x.takeOut(3);
        CHECK.due("use without trips in duties", x.use(), 0.0);
        CHECK.due("pay without trips", x.pay(), 0);
    }
}
