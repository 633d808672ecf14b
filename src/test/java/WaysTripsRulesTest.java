/** Promises 1 to 6: a new object, setWay, addTrip, trip, setRules, count. */
public final class WaysTripsRulesTest {

    private static final Check CHECK = new Check("WaysTripsRulesTest");
    private static final int[] WRONG_POINTS = {-1, 6, Integer.MIN_VALUE, Integer.MAX_VALUE};

    public static void main(String[] args) {
        newObject();
        firstWaysAndRules();
        setWay();
        setWayRefuses();
        setWayMovesDuties();
        addTrip();
        addTripRefuses();
        atMostFortyTrips();
        trip();
        setRulesAnswers();
        setRulesBounds();
        setRulesRefuses();
        setRulesHolds();
        count();
        CHECK.end();
    }

    private static void newObject() {
        DutyDesk x = new DutyDesk();
        for (int what = 0; what < 4; what++) {
            CHECK.due("count of a new desk", x.count(what), 0);
        }
        CHECK.due("pay of a new desk", x.pay(), 0);
        CHECK.due("use of a new desk", x.use(), 0.0);
        CHECK.due("plan of a new desk", x.plan(), 0);
        CHECK.due("improve of a new desk", x.improve(), 0);
        CHECK.due("fill of a new desk", x.fill(0), 0);
        CHECK.due("digest of a new desk", x.digest(), 311L * 31 * 31 * 31);
        CHECK.noSuch(x, "trip(0, 0)", () -> x.trip(0, 0));
        CHECK.noSuch(x, "duty(0, 0)", () -> x.duty(0, 0));
        CHECK.noSuch(x, "week(0)", () -> x.week(0));
    }

    private static void firstWaysAndRules() {
        DutyDesk x = new DutyDesk();
        for (int a = 0; a < 6; a++) {
            for (int b = a + 1; b < 6; b++) {
                CHECK.due("first way", x.setWay(a, b, 15), 15);
            }
        }
        // Driving 270, spread 720, break 30 at first; each is just kept and just broken.
        x.addTrip(0, 0, 100, 340);
        x.addTrip(0, 0, 369, 399);
        x.addTrip(0, 0, 369, 400);
        x.addTrip(0, 0, 370, 401);
        x.addTrip(0, 0, 700, 805);
        x.addTrip(0, 0, 700, 806);
        x.addDuty();
        x.put(0, 0);
        CHECK.badState(x, "put with driving 271", () -> x.put(0, 2));
        CHECK.due("put with driving 270", x.put(0, 1), 1);
        CHECK.due("driving", x.duty(0, 6), 270);
        x.takeOut(1);
        CHECK.due("put behind a break of 30", x.put(0, 3), 1);
        CHECK.due("breaks", x.duty(0, 5), 1);
        CHECK.badState(x, "put with spread 721", () -> x.put(0, 5));
        CHECK.due("put with spread 720", x.put(0, 4), 2);
        CHECK.due("spread", x.duty(0, 2) - x.duty(0, 1), 720);
    }

    private static void setWay() {
        DutyDesk x = new DutyDesk();
        CHECK.due("setWay(0, 1, 1)", x.setWay(0, 1, 1), 15);
        CHECK.due("setWay(1, 0, 90), the same both ways", x.setWay(1, 0, 90), 1);
        CHECK.due("setWay(0, 1, 20)", x.setWay(0, 1, 20), 90);
        CHECK.due("setWay(5, 4, 33)", x.setWay(5, 4, 33), 15);
        CHECK.due("setWay(4, 5, 34)", x.setWay(4, 5, 34), 33);
        CHECK.due("setWay(0, 5, 15), another way", x.setWay(0, 5, 15), 15);
        CHECK.due("setWay(1, 4, 15), another way", x.setWay(1, 4, 15), 15);
    }

    private static void setWayRefuses() {
        DutyDesk x = new DutyDesk();
        x.setWay(0, 1, 40);
        for (int wrong : WRONG_POINTS) {
            CHECK.noSuch(x, "setWay of no point", () -> x.setWay(wrong, 0, 20));
            CHECK.noSuch(x, "setWay to no point", () -> x.setWay(0, wrong, 20));
            CHECK.noSuch(x, "setWay, no point is named first", () -> x.setWay(wrong, wrong, 0));
        }
        for (int point = 0; point < 6; point++) {
            int same = point;
            CHECK.badArgument(x, "setWay to itself", () -> x.setWay(same, same, 20));
        }
        for (int minutes : new int[] {0, 91, -1, Integer.MIN_VALUE, Integer.MAX_VALUE}) {
            CHECK.badArgument(x, "setWay(0, 1, " + minutes + ")", () -> x.setWay(0, 1, minutes));
            CHECK.badArgument(x, "setWay(1, 0, " + minutes + ")", () -> x.setWay(1, 0, minutes));
        }
        CHECK.due("the way after refusals", x.setWay(0, 1, 41), 40);
        CHECK.due("the way to itself stays 0", dutyBeginAtDepot(x), 90);
    }

    private static int dutyBeginAtDepot(DutyDesk x) {
        x.addTrip(0, 0, 100, 120);
        x.addDuty();
        x.put(0, 0);
        return x.duty(0, 1);
    }

    private static void setWayMovesDuties() {
        DutyDesk x = new DutyDesk();
        x.addTrip(1, 2, 100, 120);
        x.addTrip(3, 4, 140, 160);
        x.addDuty();
        x.put(0, 0);
        x.put(0, 1);
        CHECK.due("begin", x.duty(0, 1), 75);
        CHECK.due("end", x.duty(0, 2), 180);
        x.setWay(0, 1, 90);
        CHECK.due("begin, less than 0 is fine", x.duty(0, 1), 0);
        x.setWay(1, 0, 90);
        x.setWay(4, 0, 1);
        CHECK.due("end", x.duty(0, 2), 166);
        CHECK.due("driving", x.duty(0, 6), 90 + 20 + 15 + 20 + 1);
        x.setWay(3, 2, 20);
        CHECK.due("right with an idle time of 0", x.duty(0, 7), 1);
        x.setWay(3, 2, 21);
        CHECK.due("not right with an idle time of -1", x.duty(0, 7), 0);
        CHECK.due("it stays in the duty", x.trip(1, 4), 0);
        CHECK.due("and in its place", x.tripAt(0, 1), 1);
        CHECK.due("work", x.duty(0, 3), 166);
    }

    private static void addTrip() {
        DutyDesk x = new DutyDesk();
        CHECK.due("addTrip from 0 o'clock", x.addTrip(0, 5, 0, 1), 0);
        CHECK.due("addTrip of 240 minutes", x.addTrip(5, 0, 10, 250), 1);
        CHECK.due("addTrip to 1799", x.addTrip(3, 3, 1798, 1799), 2);
        CHECK.due("addTrip of 240 minutes to 1799", x.addTrip(2, 2, 1559, 1799), 3);
        CHECK.due("addTrip like another one", x.addTrip(2, 2, 1559, 1799), 4);
        CHECK.due("count(0)", x.count(0), 5);
        CHECK.due("a new trip is in no duty", x.trip(4, 4), -1);
    }

    private static void addTripRefuses() {
        DutyDesk x = new DutyDesk();
        for (int wrong : WRONG_POINTS) {
            CHECK.noSuch(x, "addTrip from no point", () -> x.addTrip(wrong, 0, 10, 20));
            CHECK.noSuch(x, "addTrip to no point", () -> x.addTrip(0, wrong, 10, 20));
            CHECK.noSuch(x, "no point is named first", () -> x.addTrip(0, wrong, 20, 10));
        }
        int[][] wrongTimes = {
            {-1, 10}, {10, 10}, {10, 9}, {0, 0}, {0, 241}, {100, 341}, {1799, 1800}, {1700, 1800},
            {1799, 1799}, {1800, 1801}, {Integer.MIN_VALUE, 10},
            {Integer.MIN_VALUE, Integer.MAX_VALUE}, {-1, Integer.MAX_VALUE},
            {0, Integer.MAX_VALUE}, {0, Integer.MIN_VALUE},
            {Integer.MAX_VALUE, Integer.MIN_VALUE}, {Integer.MAX_VALUE, 10},
        };
        for (int[] times : wrongTimes) {
            CHECK.badArgument(x, "addTrip " + times[0] + " to " + times[1],
                    () -> x.addTrip(1, 2, times[0], times[1]));
        }
        CHECK.due("count(0)", x.count(0), 0);
    }

    private static void atMostFortyTrips() {
        DutyDesk x = new DutyDesk();
        for (int trip = 0; trip < 40; trip++) {
            CHECK.due("addTrip", x.addTrip(trip % 6, (trip + 1) % 6, trip, trip + 30), trip);
        }
        CHECK.badState(x, "addTrip of a 41st", () -> x.addTrip(0, 1, 10, 20));
        CHECK.badArgument(x, "the times are named before", () -> x.addTrip(0, 1, 10, 10));
        CHECK.noSuch(x, "the points are named before", () -> x.addTrip(0, 6, 10, 20));
        CHECK.due("count(0)", x.count(0), 40);
        CHECK.due("trip(39, 2)", x.trip(39, 2), 39);
        CHECK.noSuch(x, "trip(40, 0)", () -> x.trip(40, 0));
    }

    private static void trip() {
        DutyDesk x = new DutyDesk();
        x.addTrip(3, 5, 111, 222);
        x.addTrip(4, 2, 1440, 1500);
        long[] first = {3, 5, 111, 222, -1};
        long[] second = {4, 2, 1440, 1500, 1};
        x.addDuty();
        x.addDuty();
        x.put(1, 1);
        for (int what = 0; what < 5; what++) {
            CHECK.due("trip(0, " + what + ")", x.trip(0, what), first[what]);
            CHECK.due("trip(1, " + what + ")", x.trip(1, what), second[what]);
        }
        for (int wrong : new int[] {-1, 2, Integer.MIN_VALUE, Integer.MAX_VALUE}) {
            CHECK.noSuch(x, "trip(" + wrong + ", 0)", () -> x.trip(wrong, 0));
        }
        for (int wrong : new int[] {-1, 5, Integer.MIN_VALUE, Integer.MAX_VALUE}) {
            CHECK.noSuch(x, "trip(0, " + wrong + ")", () -> x.trip(0, wrong));
        }
    }

    /** Duty 0 has driving 150 and spread 735, duty 1 an idle time of 0, duty 2 no trips. */
    private static DutyDesk deskWithThreeDuties() {
        DutyDesk x = new DutyDesk();
        x.setRules(600, 1000, 30, 660);
        x.addTrip(0, 0, 100, 250);
        x.addTrip(0, 0, 720, 820);
        x.addTrip(0, 0, 100, 200);
        x.addTrip(0, 0, 200, 300);
        x.addDuty();
        x.addDuty();
        x.addDuty();
        x.put(0, 0);
        x.put(0, 1);
        x.put(1, 2);
        x.put(1, 3);
        return x;
    }

    private static void setRulesAnswers() {
        DutyDesk x = deskWithThreeDuties();
        CHECK.due("all right", x.setRules(200, 735, 30, 0), 0);
        CHECK.due("spread too great", x.setRules(200, 734, 30, 0), 1);
        CHECK.due("duty(0, 7)", x.duty(0, 7), 0);
        CHECK.due("duty(1, 7)", x.duty(1, 7), 1);
        CHECK.due("duty(2, 7), without trips", x.duty(2, 7), 1);
        CHECK.due("driving of one too great", x.setRules(199, 735, 30, 0), 1);
        CHECK.due("duty(0, 7)", x.duty(0, 7), 1);
        CHECK.due("duty(1, 7)", x.duty(1, 7), 0);
        CHECK.due("one of each", x.setRules(199, 734, 30, 0), 2);
        CHECK.due("driving of both too great", x.setRules(149, 1000, 30, 0), 2);
        CHECK.due("all stays as it is", x.duty(0, 0), 2);
        CHECK.due("all right again", x.setRules(600, 1000, 30, 0), 0);
    }

    private static void setRulesBounds() {
        DutyDesk x = new DutyDesk();
        int[][] allowed = {
            {60, 240, 10, 0}, {600, 1000, 90, 900}, {60, 1000, 10, 900}, {600, 240, 90, 0},
        };
        for (int[] r : allowed) {
            CHECK.due("setRules at the bounds", x.setRules(r[0], r[1], r[2], r[3]), 0);
        }
    }

    private static void setRulesRefuses() {
        DutyDesk x = deskWithThreeDuties();
        x.setRules(200, 735, 30, 660);
        int[][] refused = {
            {59, 735, 30, 660}, {601, 735, 30, 660}, {200, 239, 30, 660}, {200, 1001, 30, 660},
            {200, 735, 9, 660}, {200, 735, 91, 660}, {200, 735, 30, -1}, {200, 735, 30, 901},
            {Integer.MIN_VALUE, 735, 30, 660}, {Integer.MAX_VALUE, 735, 30, 660},
            {200, Integer.MIN_VALUE, 30, 660}, {200, Integer.MAX_VALUE, 30, 660},
            {200, 735, Integer.MIN_VALUE, 660}, {200, 735, Integer.MAX_VALUE, 660},
            {200, 735, 30, Integer.MIN_VALUE}, {200, 735, 30, Integer.MAX_VALUE},
            {100, 300, 80, 901}, {100, 300, 91, 100}, {100, 239, 80, 100}, {59, 300, 80, 100},
        };
        for (int[] r : refused) {
            CHECK.badArgument(x, "setRules " + r[0] + " " + r[1] + " " + r[2] + " " + r[3],
                    () -> x.setRules(r[0], r[1], r[2], r[3]));
        }
        // A limit that had been kept in spite of the throw would show when duties are measured.
        x.setWay(1, 2, 15);
        CHECK.due("duty(0, 7)", x.duty(0, 7), 1);
        CHECK.due("duty(1, 7)", x.duty(1, 7), 1);
        CHECK.due("duty(0, 5)", x.duty(0, 5), 1);
    }

    private static void setRulesHolds() {
        DutyDesk x = new DutyDesk();
        x.addTrip(0, 0, 100, 160);
        x.addTrip(0, 0, 200, 260);
        x.addDuty();
        x.put(0, 0);
        x.put(0, 1);
        CHECK.due("an idle time of 40 is a break", x.duty(0, 5), 1);
        CHECK.due("work", x.duty(0, 3), 135);
        CHECK.due("setRules(119, ..)", x.setRules(119, 720, 41, 660), 1);
        CHECK.due("an idle time of 40 is none", x.duty(0, 5), 0);
        CHECK.due("work", x.duty(0, 3), 175);
        CHECK.due("driving", x.duty(0, 6), 120);
        CHECK.due("setRules(119, ..)", x.setRules(119, 720, 40, 660), 0);
        CHECK.due("an idle time of 40 is a break", x.duty(0, 5), 1);
        CHECK.due("driving", x.duty(0, 6), 60);
    }

    private static void count() {
        DutyDesk x = new DutyDesk();
        x.addTrip(0, 0, 100, 160);
        x.addTrip(0, 0, 200, 260);
        x.addTrip(0, 0, 300, 360);
        x.addDuty();
        x.addDuty();
        x.addDriver();
        CHECK.due("count(0)", x.count(0), 3);
        CHECK.due("count(1)", x.count(1), 2);
        CHECK.due("count(2)", x.count(2), 1);
        CHECK.due("count(3)", x.count(3), 3);
        x.put(1, 1);
        x.put(0, 0);
        CHECK.due("count(3)", x.count(3), 1);
        x.takeOut(1);
        CHECK.due("count(3)", x.count(3), 2);
        for (int wrong : new int[] {-1, 4, Integer.MIN_VALUE, Integer.MAX_VALUE}) {
            CHECK.noSuch(x, "count(" + wrong + ")", () -> x.count(wrong));
        }
    }
}
