/** The boundary cases of promises 7 to 17, a test for each sentence of the document. */
public final class DutiesBoundsTest {

    private static final Check CHECK = new Check("DutiesBoundsTest");
    private static final Recipe NEW = new Recipe();
    private static final Recipe WIDE = Recipe.wide();
    private static final Recipe MIXED = Recipe.mixed();
    /** Breaks are long here, so that an exchange of tails can save pay. */
    private static final Recipe LONG_BREAKS = NEW.rules(600, 1000, 90, 0);
    private static final int[] LONG = {100, 220, 220, 340, 340, 460, 460, 580, 580, 685};
    private static final int[] SHORT = {100, 200};
    private static final int MIN = Integer.MIN_VALUE;
    private static final int MAX = Integer.MAX_VALUE;
    private static final int[] NO_DUTIES = {-1, 3, 12, MIN, MAX};
    private static final int[] NO_TRIPS = {-1, 5, 40, MIN, MAX};

    public static void main(String[] args) {
        CHECK.test("7: Adds a duty without trips", () -> newDutyHasNoTrips());
        CHECK.test("7: if there are 12 duties", () -> twelveDuties());
        CHECK.test("8: Returns its place in it, from 0", () -> placeFrom0());
        CHECK.test("8: if there is no such duty or trip", () -> putNoDutyOrTrip());
        CHECK.test("8: if the trip is in a duty", () -> putInADuty());
        CHECK.test("8: the duty is fixed", () -> putFixed());
        CHECK.test("8: it has a trip with the same departure", () -> putSameDeparture());
        CHECK.test("8: or it would not be right: idle time", () -> putIdle());
        CHECK.test("8: or it would not be right, but now is", () -> putCures());
        CHECK.test("8: or it would not be right: driving", () -> putDriving());
        CHECK.test("8: or it would not be right: spread", () -> putSpread());
        CHECK.test("9: Returns the duty", () -> takeOutAnswers());
        CHECK.test("9: if there is no such trip", () -> takeOutNoTrip());
        CHECK.test("9: if it is in no duty", () -> takeOutOfNone());
        CHECK.test("9: its duty is fixed", () -> takeOutFixed());
        CHECK.test("9: or would not be right: idle time", () -> takeOutIdle());
        CHECK.test("9: or would not be right: driving", () -> takeOutDriving());
        CHECK.test("9: or would not be right: spread", () -> takeOutSpread());
        CHECK.test("10: 0 without trips", () -> drivingWithoutTrips());
        CHECK.test("10: 1 if it is right, else 0", () -> rightOrNot());
        CHECK.test("10: 1 if it is fixed, else 0", () -> fixedOrNot());
        CHECK.test("10: if there is no such duty", () -> dutyNoDuty());
        CHECK.test("10: or what is not 0 to 8", () -> dutyNoWhat());
        CHECK.test("11: a place in it, from 0", () -> tripAtPlaces());
        CHECK.test("11: if there is no such duty", () -> tripAtNoDuty());
        CHECK.test("11: or place", () -> tripAtNoPlace());
        CHECK.test("12: greater by the least amount", () -> bestForLeastAmount());
        CHECK.test("12: of several the one with the smallest number", () -> bestForSeveral());
        CHECK.test("12: -1 if there is none", () -> bestForNone());
        CHECK.test("12: or the trip is in a duty", () -> bestForInADuty());
        CHECK.test("12: if there is no such trip", () -> bestForNoTrip());
        CHECK.test("13: for each trip that is in no duty", () -> planNothing());
        CHECK.test("13: in ascending order of their departures", () -> planByDeparture());
        CHECK.test("13: for each trip .. in no duty, once more", () -> planAgain());
        CHECK.test("13: of the same departure of their numbers", () -> planByNumber());
        CHECK.test("13: into the duty that bestFor() tells", () -> planLikeBestFor());
        CHECK.test("13: if there is none, into a new one", () -> planNewOne());
        CHECK.test("13: if there are less than 12", () -> planLessThan12());
        CHECK.test("13: and it is right there", () -> planRightThere());
        CHECK.test("13: Returns how many trips are in no duty then", () -> planAnswers());
        CHECK.test("14: with a departure at a time or later", () -> swapAtATime());
        CHECK.test("14: tails without trips", () -> swapNothing());
        CHECK.test("14: Returns the pay of both then, less that before", () -> swapAnswers());
        CHECK.test("14: if there is no such duty", () -> swapNoDuty());
        CHECK.test("14: if a and b are the same", () -> swapSame());
        CHECK.test("14: if one of them is fixed", () -> swapFixed());
        CHECK.test("14: or would not be right", () -> swapNotRight());
        CHECK.test("15: answer by the least number", () -> improveLeast());
        CHECK.test("15: the one with the smallest a", () -> improveSmallestA());
        CHECK.test("15: then the smallest b", () -> improveSmallestB());
        CHECK.test("15: then the earliest time", () -> improveEarliest());
        CHECK.test("15: of the departures of all: the first", () -> improveFirstDepartures());
        CHECK.test("15: of the departures of all: the last", () -> improveLastDepartures());
        CHECK.test("15: if this number is less than 0", () -> improveLessThan0());
        CHECK.test("15: the one that swap() would do", () -> improveLikeSwap());
        CHECK.test("15: 0 if no exchange was made", () -> improveNoExchange());
        CHECK.test("16: Returns the pay of all duties", () -> payOfNoneAndAll());
        CHECK.test("17: divided by the work of all duties", () -> useOfAll());
        CHECK.test("17: 0 if no trip is in a duty", () -> useOfNone());
        CHECK.end();
    }

    // ---- promise 7

    private static void newDutyHasNoTrips() {
        CHECK.answer(NEW.trips(100, 200), "addDuty()", 0, x -> x.addDuty());
        Recipe one = NEW.trips(100, 200).duty();
        CHECK.answer(one, "duty(0, 0)", 0, x -> x.duty(0, 0));
        CHECK.noSuch(one, "tripAt(0, 0)", x -> x.tripAt(0, 0));
        CHECK.answer(one, "trip(0, 4)", -1, x -> x.trip(0, 4));
    }

    private static void twelveDuties() {
        CHECK.answer(NEW.emptyDuties(11), "the 12th", 11, x -> x.addDuty());
        CHECK.badState(NEW.emptyDuties(12), "the 13th", x -> x.addDuty());
        CHECK.answer(NEW.emptyDuties(12), "count(1)", 12, x -> x.count(1));
        Recipe planned = NEW;
        for (int trip = 0; trip < 12; trip++) {
            planned = planned.trips(100 + trip, 200 + trip);
        }
        CHECK.badState(planned.then(x -> x.plan()), "the 13th behind 12 of plan()",
                x -> x.addDuty());
    }

    // ---- promise 8

    private static void placeFrom0() {
        Recipe three = WIDE.trips(100, 110, 200, 210, 300, 310, 150, 160).duty(0, 1, 2);
        CHECK.answer(WIDE.trips(100, 110).duty(), "the only place", 0, x -> x.put(0, 0));
        CHECK.answer(three, "a place between", 1, x -> x.put(0, 3));
        Recipe ahead = WIDE.trips(100, 110, 200, 210, 99, 100).duty(0, 1);
        CHECK.answer(ahead, "the first place", 0, x -> x.put(0, 2));
        Recipe behind = WIDE.trips(100, 110, 200, 210, 210, 211).duty(0, 1);
        CHECK.answer(behind, "the last place", 2, x -> x.put(0, 2));
        Recipe all = WIDE.duty().tripsInARow(0, 40);
        for (int trip = 0; trip < 39; trip++) {
            int number = trip;
            all = all.then(x -> x.put(0, number));
        }
        CHECK.answer(all, "the 40th place", 39, x -> x.put(0, 39));
        CHECK.answer(all.then(x -> x.put(0, 39)), "all 40 trips", 40, x -> x.duty(0, 0));
    }

    private static void putNoDutyOrTrip() {
        for (int duty : NO_DUTIES) {
            CHECK.noSuch(MIXED, "put(" + duty + ", 4)", x -> x.put(duty, 4));
            CHECK.noSuch(MIXED, "put(" + duty + ", 0)", x -> x.put(duty, 0));
            CHECK.noSuch(MIXED, "put(" + duty + ", 5)", x -> x.put(duty, 5));
        }
        for (int trip : NO_TRIPS) {
            CHECK.noSuch(MIXED, "put(1, " + trip + ")", x -> x.put(1, trip));
            CHECK.noSuch(MIXED, "put(0, " + trip + ")", x -> x.put(0, trip));
        }
        CHECK.answer(MIXED, "put(2, 4)", 0, x -> x.put(2, 4));
    }

    private static void putInADuty() {
        CHECK.badState(MIXED, "put(1, 2), its duty", x -> x.put(1, 2));
        CHECK.badState(MIXED, "put(2, 2), another duty", x -> x.put(2, 2));
        CHECK.badState(MIXED, "put(2, 0), out of a fixed duty", x -> x.put(2, 0));
        CHECK.answer(MIXED.then(x -> x.takeOut(2)), "put(2, 2), taken out", 0, x -> x.put(2, 2));
    }

    private static void putFixed() {
        for (int day = 0; day <= 6; day++) {
            int given = day;
            Recipe fixed = WIDE.dutyOf(100, 200).trips(300, 310).drivers(2).give(1, 0, day);
            CHECK.badState(fixed, "put, fixed on day " + day, x -> x.put(0, 1));
            CHECK.answer(fixed.then(x -> x.takeBack(1, given)), "put, taken back", 1,
                    x -> x.put(0, 1));
        }
    }

    private static void putSameDeparture() {
        for (int arrival : new int[] {101, 110, 111, 340}) {
            Recipe same = WIDE.trips(100, 110, 100, arrival, 110, 120).duty(0, 2);
            CHECK.badState(same, "put, 100 to " + arrival, x -> x.put(0, 1));
            Recipe behind = WIDE.trips(50, 60, 100, 110, 100, arrival).duty(0, 1);
            CHECK.badState(behind, "put, behind, 100 to " + arrival, x -> x.put(0, 2));
        }
        Recipe later = WIDE.trips(100, 101, 101, 102).duty(0);
        CHECK.answer(later, "put, a minute later", 1, x -> x.put(0, 1));
        Recipe earlier = WIDE.trips(100, 101, 99, 100).duty(0);
        CHECK.answer(earlier, "put, a minute earlier", 0, x -> x.put(0, 1));
    }

    private static void putIdle() {
        Recipe ways = WIDE.way(1, 2, 25).trip(0, 1, 100, 200);
        Recipe behind = ways.trip(2, 0, 225, 300).trip(2, 0, 224, 300).duty(0);
        CHECK.answer(behind, "put behind, idle time 0", 1, x -> x.put(0, 1));
        CHECK.badState(behind, "put behind, idle time -1", x -> x.put(0, 2));
        Recipe ahead = ways.trip(1, 2, 50, 85).trip(1, 2, 50, 86).duty(0).way(0, 2, 15);
        CHECK.answer(ahead, "put ahead, idle time 0", 0, x -> x.put(0, 1));
        CHECK.badState(ahead, "put ahead, idle time -1", x -> x.put(0, 2));
        Recipe between = WIDE.trips(100, 200, 300, 400, 200, 300, 200, 301, 199, 300).duty(0, 1);
        CHECK.answer(between, "put between, idle times 0", 1, x -> x.put(0, 2));
        CHECK.badState(between, "put between, idle time -1 behind it", x -> x.put(0, 3));
        CHECK.badState(between, "put between, idle time -1 ahead of it", x -> x.put(0, 4));
    }

    private static void putCures() {
        // The trip from 1 to 2 takes less than the way that is set between them.
        Recipe wrong = WIDE.trip(0, 1, 100, 200).trip(2, 0, 220, 300).trip(1, 2, 205, 210)
                .trip(1, 2, 199, 210).duty(0, 1).way(1, 2, 21);
        CHECK.answer(wrong, "duty(0, 7)", 0, x -> x.duty(0, 7));
        CHECK.answer(wrong, "put, it becomes right", 1, x -> x.put(0, 2));
        CHECK.answer(wrong.then(x -> x.put(0, 2)), "duty(0, 7) then", 1, x -> x.duty(0, 7));
        CHECK.onlyAsks(wrong, "bestFor, it would become right", 0, x -> x.bestFor(2));
        CHECK.badState(wrong, "put, it stays not right", x -> x.put(0, 3));
        CHECK.onlyAsks(wrong, "bestFor, it would stay not right", -1, x -> x.bestFor(3));
    }

    private static void putDriving() {
        Recipe rules = NEW.rules(150, 1000, 30, 0);
        Recipe behind = rules.trips(100, 200, 210, 260, 210, 261).duty(0);
        CHECK.answer(behind, "put, driving of the limit", 1, x -> x.put(0, 1));
        CHECK.badState(behind, "put, driving above the limit", x -> x.put(0, 2));
        Recipe home = rules.way(0, 1, 20).trips(100, 200).trip(0, 1, 210, 240)
                .trip(0, 1, 210, 241).duty(0);
        CHECK.answer(home, "put, with the way to the depot", 1, x -> x.put(0, 1));
        CHECK.badState(home, "put, a minute more", x -> x.put(0, 2));
        // A trip between can join two stretches to one that is too long.
        Recipe joined = rules.trips(100, 170, 230, 300, 190, 200, 190, 201).duty(0, 1);
        CHECK.answer(joined, "put between, driving 150", 1, x -> x.put(0, 2));
        CHECK.badState(joined, "put between, driving 151", x -> x.put(0, 3));
        CHECK.answer(NEW.rules(150, 1000, 29, 0).trips(100, 170, 230, 300, 190, 201).duty(0, 1),
                "put between, behind it a break", 1, x -> x.put(0, 2));
    }

    private static void putSpread() {
        Recipe rules = NEW.rules(600, 300, 30, 0);
        Recipe behind = rules.trips(100, 110, 380, 385, 380, 386).duty(0);
        CHECK.answer(behind, "put behind, spread 300", 1, x -> x.put(0, 1));
        CHECK.badState(behind, "put behind, spread 301", x -> x.put(0, 2));
        Recipe ahead = rules.trips(380, 385, 100, 110, 99, 110).duty(0);
        CHECK.answer(ahead, "put ahead, spread 300", 0, x -> x.put(0, 1));
        CHECK.badState(ahead, "put ahead, spread 301", x -> x.put(0, 2));
        Recipe ways = rules.way(0, 1, 40).trips(100, 110).trip(0, 1, 300, 345)
                .trip(0, 1, 300, 346).duty(0);
        CHECK.answer(ways, "put, spread 300 with the way", 1, x -> x.put(0, 1));
        CHECK.badState(ways, "put, spread 301 with the way", x -> x.put(0, 2));
    }

    // ---- promise 9

    private static void takeOutAnswers() {
        Recipe last = WIDE.trips(100, 110, 200, 210).emptyDuties(11).duty(0, 1);
        CHECK.answer(last, "out of the last duty", 11, x -> x.takeOut(0));
        CHECK.answer(last.then(x -> x.takeOut(0)), "its last trip", 11, x -> x.takeOut(1));
        DutyDesk x = last.then(y -> y.takeOut(0)).then(y -> y.takeOut(1)).make();
        CHECK.row("all taken out", x, 11);
        CHECK.due("count(3)", x.count(3), 2);
        CHECK.answer(WIDE.trips(100, 110).duty(0), "out of the first duty", 0, y -> y.takeOut(0));
    }

    private static void takeOutNoTrip() {
        for (int trip : NO_TRIPS) {
            CHECK.noSuch(MIXED, "takeOut(" + trip + ")", x -> x.takeOut(trip));
        }
        CHECK.noSuch(NEW, "takeOut(0)", x -> x.takeOut(0));
    }

    private static void takeOutOfNone() {
        CHECK.badState(MIXED, "takeOut(4)", x -> x.takeOut(4));
        CHECK.badState(MIXED.then(x -> x.takeOut(2)), "takeOut(2) again", x -> x.takeOut(2));
        CHECK.badState(NEW.trips(100, 110), "takeOut without duties", x -> x.takeOut(0));
    }

    private static void takeOutFixed() {
        CHECK.badState(MIXED, "takeOut(0)", x -> x.takeOut(0));
        CHECK.badState(MIXED, "takeOut(1)", x -> x.takeOut(1));
        CHECK.answer(MIXED.then(x -> x.takeBack(0, 2)), "takeOut(1), taken back", 0,
                x -> x.takeOut(1));
        for (int day = 0; day <= 6; day++) {
            Recipe fixed = WIDE.dutyOf(100, 200).drivers(8).give(7, 0, day);
            CHECK.badState(fixed, "takeOut, fixed on day " + day, x -> x.takeOut(0));
        }
    }

    private static void takeOutIdle() {
        Recipe three = WIDE.trip(0, 1, 100, 140).trip(1, 2, 140, 180).trip(2, 0, 200, 240)
                .duty(0, 1, 2);
        CHECK.answer(three.way(1, 2, 60), "takeOut, idle time 0", 0, x -> x.takeOut(1));
        CHECK.badState(three.way(1, 2, 61), "takeOut, idle time -1", x -> x.takeOut(1));
        CHECK.answer(three.way(1, 2, 61), "takeOut of the first", 0, x -> x.takeOut(0));
        CHECK.answer(three.way(1, 2, 61), "takeOut of the last", 0, x -> x.takeOut(2));
    }

    /** Without trip 0, the way from the depot to point 1 is longer by 79. */
    private static Recipe longWayOut() {
        return WIDE.way(0, 1, 90).way(0, 2, 1).way(1, 2, 1).trip(2, 2, 100, 101)
                .trip(1, 0, 110, 300).duty(0, 1);
    }

    private static void takeOutDriving() {
        CHECK.answer(longWayOut().rules(280, 1000, 30, 0), "takeOut, driving of the limit", 0,
                x -> x.takeOut(0));
        CHECK.badState(longWayOut().rules(279, 1000, 30, 0), "takeOut, driving above the limit",
                x -> x.takeOut(0));
        // It stays not right without one trip, and becomes right without the other.
        Recipe wrong = WIDE.trips(100, 200, 250, 300).duty(0, 1).rules(99, 1000, 30, 0);
        CHECK.badState(wrong, "takeOut, it stays not right", x -> x.takeOut(1));
        CHECK.answer(wrong, "takeOut, it becomes right", 0, x -> x.takeOut(0));
        Recipe only = WIDE.trips(100, 200).duty(0).rules(99, 1000, 30, 0);
        CHECK.answer(only, "takeOut of the only trip, not right", 0, x -> x.takeOut(0));
        CHECK.answer(wrong.then(x -> x.takeOut(0)), "duty(0, 7) then", 1, x -> x.duty(0, 7));
        CHECK.answer(only.then(x -> x.takeOut(0)), "duty(0, 7) then", 1, x -> x.duty(0, 7));
    }

    private static void takeOutSpread() {
        CHECK.answer(longWayOut().rules(600, 295, 30, 0), "takeOut, spread of the limit", 0,
                x -> x.takeOut(0));
        CHECK.badState(longWayOut().rules(600, 294, 30, 0), "takeOut, spread above the limit",
                x -> x.takeOut(0));
    }

    // ---- promises 10 and 11

    private static void drivingWithoutTrips() {
        CHECK.onlyAsks(NEW.duty(), "duty(0, 6)", 0, x -> x.duty(0, 6));
        Recipe emptied = WIDE.dutyOf(100, 200).then(x -> x.takeOut(0));
        CHECK.onlyAsks(emptied, "duty(0, 6), emptied", 0, x -> x.duty(0, 6));
        CHECK.onlyAsks(WIDE.dutyOf(100, 101), "duty(0, 6), a minute", 1, x -> x.duty(0, 6));
    }

    private static void rightOrNot() {
        Recipe one = WIDE.dutyOf(100, 200);
        CHECK.onlyAsks(one.rules(100, 240, 30, 0), "duty(0, 7)", 1, x -> x.duty(0, 7));
        CHECK.onlyAsks(one.rules(99, 240, 30, 0), "duty(0, 7)", 0, x -> x.duty(0, 7));
        CHECK.onlyAsks(one.rules(99, 240, 30, 0).rules(100, 240, 30, 0), "duty(0, 7), again", 1,
                x -> x.duty(0, 7));
    }

    private static void fixedOrNot() {
        CHECK.onlyAsks(MIXED, "duty(0, 8)", 1, x -> x.duty(0, 8));
        CHECK.onlyAsks(MIXED, "duty(1, 8)", 0, x -> x.duty(1, 8));
        CHECK.onlyAsks(MIXED, "duty(2, 8)", 0, x -> x.duty(2, 8));
        Recipe eight = WIDE.dutyOf(100, 200).drivers(8).give(7, 0, 6);
        CHECK.onlyAsks(eight, "the last driver, the last day", 1, x -> x.duty(0, 8));
    }

    private static void dutyNoDuty() {
        for (int duty : NO_DUTIES) {
            for (int what = 0; what <= 8; what++) {
                int asked = what;
                CHECK.noSuch(MIXED, "duty(" + duty + ", " + what + ")", x -> x.duty(duty, asked));
            }
        }
        CHECK.noSuch(NEW.emptyDuties(12), "duty(12, 0)", x -> x.duty(12, 0));
        CHECK.answer(NEW.emptyDuties(12), "duty(11, 7)", 1, x -> x.duty(11, 7));
    }

    private static void dutyNoWhat() {
        for (int what : new int[] {-1, 9, MIN, MAX}) {
            CHECK.noSuch(MIXED, "duty(0, " + what + ")", x -> x.duty(0, what));
            CHECK.noSuch(MIXED, "duty(2, " + what + ")", x -> x.duty(2, what));
        }
        CHECK.answer(MIXED, "duty(0, 0)", 2, x -> x.duty(0, 0));
        CHECK.answer(MIXED, "duty(0, 8)", 1, x -> x.duty(0, 8));
    }

    private static void tripAtPlaces() {
        Recipe three = WIDE.trips(300, 310, 200, 210, 100, 110).duty(0, 1, 2);
        CHECK.onlyAsks(three, "tripAt(0, 0)", 2, x -> x.tripAt(0, 0));
        CHECK.onlyAsks(three, "tripAt(0, 1)", 1, x -> x.tripAt(0, 1));
        CHECK.onlyAsks(three, "tripAt(0, 2)", 0, x -> x.tripAt(0, 2));
    }

    private static void tripAtNoDuty() {
        for (int duty : NO_DUTIES) {
            CHECK.noSuch(MIXED, "tripAt(" + duty + ", 0)", x -> x.tripAt(duty, 0));
        }
    }

    private static void tripAtNoPlace() {
        for (int place : new int[] {-1, 2, 40, MIN, MAX}) {
            CHECK.noSuch(MIXED, "tripAt(1, " + place + ")", x -> x.tripAt(1, place));
        }
        CHECK.noSuch(MIXED, "tripAt(2, 0), without trips", x -> x.tripAt(2, 0));
        Recipe less = MIXED.then(x -> x.takeOut(3));
        CHECK.noSuch(less, "tripAt(1, 1), taken out", x -> x.tripAt(1, 1));
        CHECK.answer(less, "tripAt(1, 0)", 2, x -> x.tripAt(1, 0));
    }

    // ---- promise 12

    private static void bestForLeastAmount() {
        // Trip 0 takes 11 minutes behind a break: the work of each duty becomes greater by 11.
        Recipe rise1 = WIDE.trips(700, 711).dutyOfWork(350).dutyOfWork(349);
        CHECK.onlyAsks(rise1, "a rise of 0 is less than of 1", 1, x -> x.bestFor(0));
        Recipe rise11 = WIDE.trips(700, 711).dutyOfWork(480).dutyOfWork(400).dutyOfWork(479);
        CHECK.onlyAsks(rise11, "a rise of 11 is less than of 16", 1, x -> x.bestFor(0));
        Recipe empty = WIDE.trips(700, 711).duty().dutyOfWork(400);
        CHECK.onlyAsks(empty, "a rise of 11 is less than of 360", 1, x -> x.bestFor(0));
        Recipe onlyEmpty = WIDE.trips(700, 711).duty();
        CHECK.onlyAsks(onlyEmpty, "a duty without trips", 0, x -> x.bestFor(0));
        // A break of 49 appears on both sides of trip 0, and with it the pay falls.
        Recipe fall = WIDE.way(1, 2, 90).way(1, 3, 1).way(2, 3, 1)
                .trip(3, 3, 395, 400).trip(0, 1, 100, 340).trip(2, 0, 455, 690)
                .dutyOf(500, 510).duty(1, 2);
        CHECK.onlyAsks(fall, "a fall is less than a rise of 0", 1, x -> x.bestFor(0));
    }

    private static void bestForSeveral() {
        Recipe three = WIDE.trips(700, 711).duty().dutyOfWork(100).dutyOfWork(90).dutyOfWork(80);
        CHECK.onlyAsks(three, "three with a rise of 0", 1, x -> x.bestFor(0));
        Recipe twelve = WIDE.trips(700, 711).emptyDuties(12);
        CHECK.onlyAsks(twelve, "12 without trips", 0, x -> x.bestFor(0));
        Recipe last = WIDE.trips(700, 711, 700, 720).emptyDuties(11)
                .then(x -> x.put(0, 1)).dutyOfWork(100);
        CHECK.onlyAsks(last, "the last one", 11, x -> x.bestFor(0));
    }

    private static void bestForNone() {
        CHECK.onlyAsks(WIDE.trips(100, 200), "no duties", -1, x -> x.bestFor(0));
        Recipe overlap = WIDE.trips(100, 200, 150, 250).duty(1);
        CHECK.onlyAsks(overlap, "it would not be right", -1, x -> x.bestFor(0));
        Recipe same = WIDE.trips(100, 200, 100, 110).duty(1);
        CHECK.onlyAsks(same, "the same departure", -1, x -> x.bestFor(0));
        Recipe fixed = WIDE.trips(100, 200).dutyOf(300, 310).drivers(1).give(0, 0, 6);
        CHECK.onlyAsks(fixed, "it is fixed", -1, x -> x.bestFor(0));
        Recipe limits = WIDE.trips(100, 200).duty();
        CHECK.onlyAsks(limits.rules(99, 1000, 30, 0), "right in no duty", -1, x -> x.bestFor(0));
        CHECK.onlyAsks(limits.rules(100, 1000, 30, 0), "just right", 0, x -> x.bestFor(0));
    }

    private static void bestForInADuty() {
        Recipe two = WIDE.trips(100, 200).duty(0).emptyDuties(2);
        CHECK.onlyAsks(two, "bestFor of a trip in a duty", -1, x -> x.bestFor(0));
        CHECK.onlyAsks(MIXED, "bestFor of a trip in a fixed duty", -1, x -> x.bestFor(0));
        CHECK.answer(two.then(x -> x.takeOut(0)), "taken out", 0, x -> x.bestFor(0));
    }

    private static void bestForNoTrip() {
        for (int trip : NO_TRIPS) {
            CHECK.noSuch(MIXED, "bestFor(" + trip + ")", x -> x.bestFor(trip));
        }
        CHECK.noSuch(NEW.duty(), "bestFor(0) without trips", x -> x.bestFor(0));
    }

    // ---- promise 13

    private static void planNothing() {
        CHECK.onlyAsks(NEW, "plan without trips", 0, x -> x.plan());
        CHECK.onlyAsks(NEW.emptyDuties(3), "plan of duties alone", 0, x -> x.plan());
        Recipe allIn = WIDE.dutyOf(100, 110).dutyOf(200, 210);
        CHECK.onlyAsks(allIn, "plan, all are in duties", 0, x -> x.plan());
    }

    private static void planByDeparture() {
        DutyDesk x = WIDE.trips(201, 300, 150, 250, 100, 201, 0, 5).then(y -> y.plan()).make();
        CHECK.row("plan", x, 0, 3, 2, 0);
        CHECK.row("plan", x, 1, 1);
        // The later number departs a minute earlier, so it has the first duty.
        DutyDesk z = WIDE.trips(101, 200, 100, 200).then(y -> y.plan()).make();
        CHECK.row("plan, a minute earlier", z, 0, 1);
        CHECK.row("plan, a minute later", z, 1, 0);
    }

    private static void planAgain() {
        // What an earlier fill() or plan() looked at does not come into the order of a later one.
        Recipe open = WIDE.trips(200, 400, 300, 500).dutyOf(490, 700).dutyOf(100, 340).drivers(8);
        DutyDesk x = open.then(y -> y.fill(0)).then(y -> y.plan()).make();
        CHECK.row("plan behind fill", x, 2, 0);
        CHECK.row("plan behind fill", x, 3, 1);
        Recipe emptied = WIDE.tripsInARow(0, 40).then(y -> y.plan());
        for (int trip = 0; trip < 40; trip++) {
            int number = trip;
            emptied = emptied.then(y -> y.takeOut(number));
        }
        CHECK.answer(emptied, "count(3), all are out", 40, y -> y.count(3));
        CHECK.answer(emptied, "plan of 40 again", 0, y -> y.plan());
        CHECK.answer(emptied.then(y -> y.plan()), "duty(0, 0)", 40, y -> y.duty(0, 0));
    }

    private static void planByNumber() {
        DutyDesk x = WIDE.trips(100, 200, 100, 150, 100, 300, 50, 60).then(y -> y.plan()).make();
        CHECK.row("plan", x, 0, 3, 0);
        CHECK.row("plan", x, 1, 1);
        CHECK.row("plan", x, 2, 2);
    }

    private static void planLikeBestFor() {
        Recipe three = WIDE.trips(700, 711).dutyOfWork(350).dutyOfWork(349).dutyOfWork(349);
        CHECK.answer(three, "bestFor", 1, x -> x.bestFor(0));
        CHECK.answer(three.then(x -> x.plan()), "its duty then", 1, x -> x.trip(0, 4));
        Recipe fixed = three.drivers(1).give(0, 1, 0);
        CHECK.answer(fixed.then(x -> x.plan()), "a fixed one is left out", 2, x -> x.trip(0, 4));
        Recipe full = WIDE.trips(100, 200).emptyDuties(12);
        CHECK.answer(full, "plan into one of 12", 0, x -> x.plan());
        CHECK.answer(full.then(x -> x.plan()), "its duty then", 0, x -> x.trip(0, 4));
        CHECK.answer(full.then(x -> x.plan()), "count(1)", 12, x -> x.count(1));
    }

    private static void planNewOne() {
        Recipe fixed = WIDE.trips(100, 200).dutyOf(300, 310).drivers(1).give(0, 0, 0);
        DutyDesk x = fixed.then(y -> y.plan()).make();
        CHECK.due("count(1): all others are fixed", x.count(1), 2);
        CHECK.row("plan into a new one", x, 1, 0);
        DutyDesk z = WIDE.trips(100, 200).duty().then(y -> y.plan()).make();
        CHECK.due("count(1): a duty without trips is there", z.count(1), 1);
        CHECK.row("plan into a duty without trips", z, 0, 0);
        DutyDesk w = WIDE.trips(100, 200).then(y -> y.plan()).then(y -> y.takeOut(0)).make();
        CHECK.due("addDuty behind a new one", w.addDuty(), 1);
        CHECK.row("a later duty", w, 1);
    }

    private static void planLessThan12() {
        Recipe two = WIDE.trips(100, 200, 150, 250);
        Recipe eleven = two;
        for (int duty = 0; duty < 11; duty++) {
            eleven = eleven.dutyOf(120 + duty, 220 + duty);
        }
        DutyDesk x = eleven.make();
        CHECK.due("plan: one more duty", x.plan(), 1);
        CHECK.due("count(1)", x.count(1), 12);
        CHECK.row("the 12th", x, 11, 0);
        CHECK.due("trip(1, 4)", x.trip(1, 4), -1);
        CHECK.due("plan: no more", x.plan(), 1);
        CHECK.due("count(1)", x.count(1), 12);
        Recipe twelve = eleven.dutyOf(140, 240);
        CHECK.onlyAsks(twelve, "plan beside 12 duties", 2, y -> y.plan());
    }

    private static void planRightThere() {
        Recipe ways = NEW.rules(129, 1000, 30, 0).trip(1, 2, 100, 200).trip(1, 2, 100, 199);
        DutyDesk x = ways.make();
        CHECK.due("plan: driving 130 above the limit", x.plan(), 1);
        CHECK.due("count(1)", x.count(1), 1);
        CHECK.row("the other trip", x, 0, 1);
        Recipe spread = NEW.rules(600, 240, 30, 0).trip(1, 1, 100, 296).trips(500, 510);
        DutyDesk y = spread.make();
        CHECK.due("plan: spread 241 above the limit", y.plan(), 1);
        CHECK.due("trip(0, 4)", y.trip(0, 4), -1);
        CHECK.row("the other trip", y, 0, 1);
        Recipe just = NEW.rules(225, 240, 30, 0).trip(1, 1, 100, 295);
        CHECK.answer(just, "plan: driving 225, spread 240", 0, z -> z.plan());
        Recipe none = NEW.rules(60, 240, 30, 0).trips(100, 161);
        CHECK.onlyAsks(none, "plan: none is right", 1, z -> z.plan());
        CHECK.onlyAsks(none.duty(), "plan: not right in a duty that is there", 1, z -> z.plan());
    }

    private static void planAnswers() {
        Recipe full = NEW;
        for (int trip = 0; trip < 40; trip++) {
            full = full.trips(100 + trip, 200 + trip);
        }
        CHECK.answer(full, "plan of 40 beside each other", 28, x -> x.plan());
        CHECK.answer(full.then(x -> x.plan()), "plan again", 28, x -> x.plan());
        CHECK.answer(full.then(x -> x.plan()), "count(3)", 28, x -> x.count(3));
        Recipe row = WIDE.tripsInARow(0, 40);
        CHECK.answer(row, "plan of 40 behind each other", 0, x -> x.plan());
        CHECK.answer(row.then(x -> x.plan()), "count(1)", 1, x -> x.count(1));
    }

    // ---- promise 14

    /** Two duties: departures 100, 200, 300 (trips 0 to 2) and 120, 220, 320 (trips 3 to 5). */
    private static Recipe twoRows() {
        return WIDE.dutyOf(100, 110, 200, 210, 300, 310).dutyOf(120, 130, 220, 230, 320, 330);
    }

    private static void dueSwap(int time, int[] first, int[] second) {
        DutyDesk x = twoRows().then(y -> y.swap(0, 1, time)).make();
        CHECK.row("swap(0, 1, " + time + ")", x, 0, first);
        CHECK.row("swap(0, 1, " + time + ")", x, 1, second);
        DutyDesk z = twoRows().then(y -> y.swap(1, 0, time)).make();
        CHECK.row("swap(1, 0, " + time + ")", z, 0, first);
        CHECK.row("swap(1, 0, " + time + ")", z, 1, second);
    }

    private static void swapAtATime() {
        dueSwap(200, new int[] {0, 4, 5}, new int[] {3, 1, 2});
        dueSwap(199, new int[] {0, 4, 5}, new int[] {3, 1, 2});
        dueSwap(201, new int[] {0, 1, 4, 5}, new int[] {3, 2});
        dueSwap(220, new int[] {0, 1, 4, 5}, new int[] {3, 2});
        dueSwap(221, new int[] {0, 1, 5}, new int[] {3, 4, 2});
        dueSwap(101, new int[] {0, 3, 4, 5}, new int[] {1, 2});
        dueSwap(320, new int[] {0, 1, 2, 5}, new int[] {3, 4});
        for (int time : new int[] {100, 99, 0, -1, MIN}) {
            dueSwap(time, new int[] {3, 4, 5}, new int[] {0, 1, 2});
        }
    }

    private static void swapNothing() {
        for (int time : new int[] {321, 1800, MAX}) {
            dueSwap(time, new int[] {0, 1, 2}, new int[] {3, 4, 5});
            CHECK.onlyAsks(twoRows(), "swap(0, 1, " + time + ")", 0, x -> x.swap(0, 1, time));
        }
        for (int time : new int[] {MIN, 0, 100, MAX}) {
            CHECK.onlyAsks(NEW.emptyDuties(2), "swap of duties without trips", 0,
                    x -> x.swap(0, 1, time));
        }
        DutyDesk x = twoRows().duty().then(y -> y.swap(0, 2, 300)).make();
        CHECK.row("swap with a duty without trips", x, 0, 0, 1);
        CHECK.row("swap with a duty without trips", x, 2, 2);
        DutyDesk z = twoRows().duty().then(y -> y.swap(2, 0, 100)).make();
        CHECK.row("swap of all into a duty without trips", z, 0);
        CHECK.row("swap of all into a duty without trips", z, 2, 0, 1, 2);
    }

    private static void swapAnswers() {
        Recipe saves = LONG_BREAKS.dutyOf(LONG).dutyOf(SHORT);
        CHECK.answer(saves, "swap that saves", -285, x -> x.swap(0, 1, 460));
        CHECK.answer(saves.then(x -> x.swap(0, 1, 460)), "swap back", 285,
                x -> x.swap(0, 1, 460));
        CHECK.answer(saves, "swap of all", 0, x -> x.swap(0, 1, 0));
        CHECK.answer(twoRows().duty(), "swap that makes a duty of it", 360,
                x -> x.swap(0, 2, 300));
        CHECK.answer(twoRows().duty(), "swap of all into a duty without trips", 0,
                x -> x.swap(0, 2, 0));
        Recipe minute = minuteDesk();
        CHECK.answer(minute, "swap that saves 1", -1, x -> x.swap(0, 1, 340));
        CHECK.answer(minute.then(x -> x.swap(0, 1, 340)), "swap that costs 1", 1,
                x -> x.swap(0, 1, 340));
    }

    /** Works of 480 and 482, which an exchange at 340 makes 481 and 481; half a minute is cut. */
    private static Recipe minuteDesk() {
        return WIDE.dutyOf(100, 340, 340, 565).dutyOf(99, 339, 340, 566);
    }

    private static void swapNoDuty() {
        for (int duty : NO_DUTIES) {
            CHECK.noSuch(MIXED, "swap(" + duty + ", 1, 500)", x -> x.swap(duty, 1, 500));
            CHECK.noSuch(MIXED, "swap(1, " + duty + ", 500)", x -> x.swap(1, duty, 500));
            CHECK.noSuch(MIXED, "swap(d, d, 500), d " + duty, x -> x.swap(duty, duty, 500));
            CHECK.noSuch(MIXED, "swap(0, " + duty + ", 500)", x -> x.swap(0, duty, 500));
        }
    }

    private static void swapSame() {
        for (int duty = 0; duty <= 2; duty++) {
            int d = duty;
            CHECK.badArgument(MIXED, "swap(d, d, 500), d " + d, x -> x.swap(d, d, 500));
            CHECK.badArgument(MIXED, "swap(d, d, MAX), d " + d, x -> x.swap(d, d, MAX));
        }
    }

    private static void swapFixed() {
        Recipe first = twoRows().drivers(1).give(0, 0, 6);
        CHECK.badState(first, "swap, a is fixed", x -> x.swap(0, 1, 200));
        CHECK.badState(first, "swap, b is fixed", x -> x.swap(1, 0, 200));
        CHECK.badState(first, "swap that would change nothing", x -> x.swap(0, 1, MAX));
        CHECK.badState(first.give(0, 1, 0), "swap, both are fixed", x -> x.swap(0, 1, 200));
        CHECK.answer(first.then(x -> x.takeBack(0, 6)), "swap, taken back", 0,
                x -> x.swap(0, 1, 200));
    }

    private static void swapNotRight() {
        // At 300 the duties become 100-200, 320-420 and 150-300, 300-400.
        Recipe rows = WIDE.dutyOf(100, 200, 300, 400).dutyOf(150, 300, 320, 420);
        CHECK.answer(rows, "swap, an idle time of 0", 0, x -> x.swap(0, 1, 300));
        Recipe idle = WIDE.dutyOf(100, 200, 300, 400).dutyOf(150, 301, 320, 420);
        CHECK.badState(idle, "swap, b has an idle time of -1", x -> x.swap(0, 1, 300));
        CHECK.badState(idle, "swap, a has an idle time of -1", x -> x.swap(1, 0, 300));
        CHECK.answer(rows.rules(250, 1000, 30, 0), "swap, driving 250 in b", 0,
                x -> x.swap(0, 1, 300));
        CHECK.badState(rows.rules(249, 1000, 30, 0), "swap, driving 250 above the limit",
                x -> x.swap(0, 1, 300));
        CHECK.answer(rows.rules(600, 335, 30, 0), "swap, spread 335", 0,
                x -> x.swap(0, 1, 300));
        CHECK.badState(rows.rules(600, 334, 30, 0), "swap, spread 335 above the limit",
                x -> x.swap(0, 1, 300));
        Recipe wrong = twoRows().dutyOf(100, 200).rules(99, 1000, 30, 0);
        CHECK.badState(wrong, "swap, one stays not right", x -> x.swap(0, 2, MAX));
        CHECK.badState(wrong, "swap, it is not right in the other", x -> x.swap(0, 2, 0));
        Recipe cured = WIDE.dutyOf(100, 200, 210, 310).dutyOf(150, 160, 215, 225);
        CHECK.answer(cured.rules(110, 1000, 30, 0), "swap, a becomes right", 0,
                x -> x.swap(0, 1, 205));
        CHECK.answer(cured.rules(110, 1000, 30, 0).then(x -> x.swap(0, 1, 205)),
                "duty(0, 7) then", 1, x -> x.duty(0, 7));
        CHECK.badState(cured.rules(109, 1000, 30, 0), "swap, a stays not right",
                x -> x.swap(0, 1, 205));
    }

    // ---- promise 15

    private static void improveLeast() {
        Recipe two = LONG_BREAKS.dutyOf(LONG).dutyOf(SHORT);
        DutyDesk x = two.make();
        CHECK.due("improve", x.improve(), -285);
        CHECK.row("improve", x, 0, 0, 1, 2);
        CHECK.row("improve", x, 1, 5, 3, 4);
        CHECK.due("improve again", x.improve(), 0);
        // The pair 1 and 2 saves 285, the pairs with duty 0 (work 500) save less.
        Recipe later = LONG_BREAKS.dutyOf(100, 220, 220, 340, 340, 460, 460, 585).dutyOf(LONG)
                .dutyOf(SHORT);
        DutyDesk y = later.make();
        CHECK.due("improve: the last pair", y.improve(), -285);
        CHECK.row("improve: the last pair", y, 0, 0, 1, 2, 3);
        CHECK.row("improve: the last pair", y, 1, 4, 5, 6);
        CHECK.row("improve: the last pair", y, 2, 9, 7, 8);
    }

    private static void improveSmallestA() {
        DutyDesk x = LONG_BREAKS.dutyOf(LONG).dutyOf(LONG).dutyOf(SHORT).make();
        CHECK.due("improve", x.improve(), -285);
        CHECK.row("improve", x, 0, 0, 1, 2);
        CHECK.row("improve", x, 1, 5, 6, 7, 8, 9);
        CHECK.row("improve", x, 2, 10, 3, 4);
        // The time of the pair 1 and 2 is earlier, but the smallest a goes before.
        int[] later = {110, 230, 230, 350, 350, 470, 470, 590, 590, 695};
        DutyDesk y = LONG_BREAKS.dutyOf(later).dutyOf(LONG).dutyOf(SHORT).make();
        CHECK.due("improve", y.improve(), -285);
        CHECK.row("improve, at a later time", y, 0, 0, 1, 2);
        CHECK.row("improve, at a later time", y, 1, 5, 6, 7, 8, 9);
        CHECK.row("improve, at a later time", y, 2, 10, 3, 4);
    }

    private static void improveSmallestB() {
        DutyDesk x = LONG_BREAKS.dutyOf(LONG).dutyOf(SHORT).dutyOf(SHORT).make();
        CHECK.due("improve", x.improve(), -285);
        CHECK.row("improve", x, 0, 0, 1, 2);
        CHECK.row("improve", x, 1, 5, 3, 4);
        CHECK.row("improve", x, 2, 6);
        // The time of the pair 0 and 2 is earlier, but the smallest b goes before.
        DutyDesk z = LONG_BREAKS.dutyOf(SHORT)
                .dutyOf(110, 230, 230, 350, 350, 470, 470, 590, 590, 695).dutyOf(LONG).make();
        CHECK.due("improve, at a later time", z.improve(), -285);
        CHECK.row("improve, at a later time", z, 0, 0, 4, 5);
        CHECK.row("improve, at a later time", z, 1, 1, 2, 3);
        CHECK.row("improve, at a later time", z, 2, 6, 7, 8, 9, 10);
        // The smallest a goes before the smallest b: the pairs 0 and 3, 1 and 2 save the same.
        DutyDesk y = LONG_BREAKS.dutyOf(LONG).dutyOf(LONG).drivers(1).dutyOf(SHORT)
                .dutyOf(SHORT).give(0, 2, 0).make();
        CHECK.due("improve beside a fixed duty", y.improve(), -285);
        CHECK.row("improve beside a fixed duty", y, 0, 0, 1, 2);
        CHECK.row("improve beside a fixed duty", y, 2, 10);
        CHECK.row("improve beside a fixed duty", y, 3, 11, 3, 4);
    }

    private static void improveEarliest() {
        int[] few = {100, 110, 400, 405};
        int[] many = {100, 200, 200, 300, 300, 399, 410, 585};
        // The times 300 and 410 (of the one duty) and 400 (of the other) all save 150.
        DutyDesk x = LONG_BREAKS.dutyOf(few).dutyOf(many).make();
        CHECK.due("improve, 300 is of b", x.improve(), -150);
        CHECK.row("improve, 300 is of b", x, 0, 0, 4, 5);
        CHECK.row("improve, 300 is of b", x, 1, 2, 3, 1);
        DutyDesk y = LONG_BREAKS.dutyOf(many).dutyOf(few).make();
        CHECK.due("improve, 300 is of a", y.improve(), -150);
        CHECK.row("improve, 300 is of a", y, 0, 0, 1, 5);
        CHECK.row("improve, 300 is of a", y, 1, 4, 2, 3);
    }

    private static void improveFirstDepartures() {
        // Only at its first departure one duty comes whole behind the other, and one is left.
        DutyDesk x = LONG_BREAKS.dutyOf(100, 200).dutyOf(400, 500).make();
        CHECK.due("improve, the first departure of b", x.improve(), -360);
        CHECK.row("improve, the first departure of b", x, 0, 0, 1);
        CHECK.row("improve, the first departure of b", x, 1);
        DutyDesk y = LONG_BREAKS.dutyOf(400, 500).dutyOf(100, 200).make();
        CHECK.due("improve, the first departure of a", y.improve(), -360);
        CHECK.row("improve, the first departure of a", y, 0);
        CHECK.row("improve, the first departure of a", y, 1, 1, 0);
    }

    private static void improveLastDepartures() {
        DutyDesk x = LONG_BREAKS.dutyOf(100, 340, 340, 465, 465, 685).dutyOf(100, 200).make();
        CHECK.due("improve, the last departure of a", x.improve(), -280);
        CHECK.row("improve, the last departure of a", x, 0, 0, 1);
        CHECK.row("improve, the last departure of a", x, 1, 3, 2);
        DutyDesk y = LONG_BREAKS.dutyOf(100, 200).dutyOf(100, 340, 340, 465, 465, 685).make();
        CHECK.due("improve, the last departure of b", y.improve(), -280);
        CHECK.row("improve, the last departure of b", y, 0, 0, 3);
        CHECK.row("improve, the last departure of b", y, 1, 1, 2);
    }

    private static void improveLessThan0() {
        DutyDesk x = minuteDesk().make();
        CHECK.due("improve: -1 is less than 0", x.improve(), -1);
        CHECK.row("improve", x, 0, 0, 3);
        CHECK.row("improve", x, 1, 2, 1);
        CHECK.due("improve: 1 is not", x.improve(), 0);
        CHECK.onlyAsks(minuteDesk().then(y -> y.improve()), "improve again", 0, y -> y.improve());
        Recipe zero = WIDE.dutyOf(100, 110, 200, 210).dutyOf(120, 130, 220, 230);
        CHECK.onlyAsks(zero, "improve: 0 is not", 0, y -> y.improve());
    }

    private static void improveLikeSwap() {
        Recipe two = LONG_BREAKS.dutyOf(LONG).dutyOf(SHORT);
        CHECK.onlyAsks(two.drivers(1).give(0, 0, 6), "improve: a is fixed", 0,
                x -> x.improve());
        CHECK.onlyAsks(two.drivers(1).give(0, 1, 0), "improve: b is fixed", 0,
                x -> x.improve());
        CHECK.onlyAsks(two.rules(99, 1000, 90, 0), "improve: none would be right", 0,
                x -> x.improve());
        // The best exchange leaves driving 360 in duty 0, the second best 345 in duty 1.
        Recipe wrong = two.rules(360, 1000, 90, 0);
        CHECK.answer(wrong, "duty(0, 7)", 0, x -> x.duty(0, 7));
        CHECK.answer(wrong, "improve: both become right", -285, x -> x.improve());
        CHECK.answer(two.rules(359, 1000, 90, 0), "improve: the second best", -200,
                x -> x.improve());
        CHECK.onlyAsks(two.rules(344, 1000, 90, 0), "improve: no third one", 0,
                x -> x.improve());
        Recipe spread = two.rules(600, 595, 90, 0);
        CHECK.onlyAsks(spread, "improve: spread 600 above the limit", 0, x -> x.improve());
        CHECK.answer(two.rules(600, 600, 90, 0), "improve: spread 600", -285, x -> x.improve());
    }

    private static void improveNoExchange() {
        CHECK.onlyAsks(NEW, "improve without duties", 0, x -> x.improve());
        CHECK.onlyAsks(NEW.emptyDuties(12), "improve without trips", 0, x -> x.improve());
        CHECK.onlyAsks(LONG_BREAKS.dutyOf(LONG), "improve of one duty", 0, x -> x.improve());
        Recipe one = LONG_BREAKS.dutyOf(SHORT).duty();
        CHECK.onlyAsks(one, "improve beside a duty without trips", 0, x -> x.improve());
        // Two duties would be paid less than this one, but there is no second one.
        Recipe wide = LONG_BREAKS.dutyOf(100, 220, 300, 420, 500, 620, 700, 820);
        CHECK.onlyAsks(wide, "improve makes no duty", 0, x -> x.improve());
        CHECK.onlyAsks(wide.drivers(1), "improve makes no duty", 0, x -> x.improve());
        CHECK.answer(wide.duty(), "improve into a duty without trips", -142, x -> x.improve());
        CHECK.answer(wide.duty().then(x -> x.improve()), "duty(1, 0)", 2, x -> x.duty(1, 0));
    }

    // ---- promises 16 and 17

    private static void payOfNoneAndAll() {
        CHECK.onlyAsks(NEW, "pay without duties", 0, x -> x.pay());
        CHECK.onlyAsks(NEW.trips(100, 200).emptyDuties(12), "pay without trips", 0, x -> x.pay());
        CHECK.onlyAsks(WIDE.dutyOf(100, 101), "pay of one", 360, x -> x.pay());
        Recipe all = WIDE;
        int due = 0;
        for (int duty = 0; duty < 12; duty++) {
            all = all.dutyOfWork(475 + duty);
            due += 475 + duty + Math.max(0, duty - 5) / 2;
        }
        CHECK.onlyAsks(all, "pay of 12", due, x -> x.pay());
        CHECK.onlyAsks(all.rules(60, 240, 10, 0), "pay of what is not right", due, x -> x.pay());
    }

    private static void useOfAll() {
        dueUse(WIDE.dutyOf(100, 101), 1.0 / 16.0);
        dueUse(WIDE.dutyOf(100, 340), 240.0 / 255.0);
        dueUse(WIDE.dutyOf(100, 340).dutyOf(100, 101).duty(), 241.0 / 271.0);
        dueUse(WIDE.dutyOf(100, 110, 140, 150), 20.0 / 35.0);
        dueUse(WIDE.dutyOf(100, 110, 139, 149), 20.0 / 64.0);
        dueUse(WIDE.dutyOf(100, 340).trips(500, 600), 240.0 / 255.0);
        dueUse(WIDE.way(0, 1, 90).trip(1, 1, 500, 501).duty(0), 1.0 / 196.0);
    }

    private static void dueUse(Recipe recipe, double due) {
        CHECK.onlyAsks(recipe, "use(), due is " + due, Double.doubleToLongBits(due),
                x -> Double.doubleToLongBits(x.use()));
    }

    private static void useOfNone() {
        dueUse(NEW, 0.0);
        dueUse(NEW.trips(100, 200), 0.0);
        dueUse(NEW.emptyDuties(12), 0.0);
        dueUse(NEW.trips(100, 200).emptyDuties(2), 0.0);
        dueUse(WIDE.dutyOf(100, 200).then(x -> x.takeOut(0)), 0.0);
    }
}
