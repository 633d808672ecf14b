/**
 * A desk for the duties of bus crews.
 *
 * <p>Trips are put together to duties that keep the rules of driving, breaks and spread; tails of
 * duties are exchanged to save pay; duties are given to drivers day by day, with rest between them.
 */
public final class DutyDesk {

    private static final int POINTS = 6;
    private static final int DEPOT = 0;
    private static final int MOST_TRIPS = 40;
    private static final int MOST_DUTIES = 12;
    private static final int MOST_DRIVERS = 8;
    private static final int DAYS = 7;
    private static final int DAY_MINUTES = 1440;
    private static final int NONE = -1;

    private static final int FIRST_WAY = 15;
    private static final int LONGEST_WAY = 90;
    private static final int LONGEST_TRIP = 240;
    private static final int LAST_MINUTE = 1799;

    private static final int AHEAD_OF_DUTY = 10;
    private static final int BEHIND_DUTY = 5;
    private static final int LEAST_PAY = 360;
    private static final int EXTRA_PAY_ABOVE = 480;

    private static final int TOO_MANY_DAYS = 6;
    private static final int MOST_WEEK_PAY = 2880;

    private static final int TRIP_FACTS = 5;
    private static final int DUTY_FACTS = 9;
    private static final long DIGEST_START = 311L;

    private static final int NO_REASON = 0;
    private static final int NO_TRIPS = 1;
    private static final int NOT_RIGHT = 2;
    private static final int HAD_BY_A_DRIVER = 3;
    private static final int DRIVER_HAS_ONE = 4;
    private static final int SIX_DAYS = 5;
    private static final int TOO_MUCH_PAY = 6;
    private static final int TOO_LITTLE_REST = 7;

    private final Timetable table = new Timetable();
    private final Rules rules = new Rules();
    private final Duty[] duties = new Duty[MOST_DUTIES];
    private final int[] dutyOfTrip = new int[MOST_TRIPS];
    private final int[][] roster = new int[MOST_DRIVERS][DAYS];
    private int dutyCount;
    private int driverCount;

    // Rows for trying a change before it is made; made once, since a run has room for few objects.
    private final Duty trial = new Duty();
    private final Duty otherTrial = new Duty();
    private final Queue queue = new Queue();
    private final Exchange best = new Exchange();
    // Stands in for a duty that is not there, so that nobody meets null.
    private final Duty noDuty = new Duty();

    public DutyDesk() {
        for (int duty = 0; duty < duties.length; duty++) {
            duties[duty] = new Duty();
        }
        for (int trip = 0; trip < dutyOfTrip.length; trip++) {
            dutyOfTrip[trip] = NONE;
        }
        for (int driver = 0; driver < MOST_DRIVERS; driver++) {
            for (int day = 0; day < DAYS; day++) {
                roster[driver][day] = NONE;
            }
        }
    }

    // ---- ways, trips and rules

    public int setWay(int a, int b, int minutes)
            throws IndexOutOfBoundsException, IllegalArgumentException {
        if (!isPoint(a) || !isPoint(b)) {
            throw new IndexOutOfBoundsException("no such point");
        }
        if (a == b || minutes < 1 || minutes > LONGEST_WAY) {
            throw new IllegalArgumentException("the same point twice, or minutes not 1 to 90");
        }
        int before = table.wayFrom(a, b);
        table.changeWay(a, b, minutes);
        measureDuties();
        return before;
    }

    public int addTrip(int from, int to, int departure, int arrival)
            throws IndexOutOfBoundsException, IllegalArgumentException, IllegalStateException {
        if (!isPoint(from) || !isPoint(to)) {
            throw new IndexOutOfBoundsException("no such point");
        }
        if (!areTimesOfTrip(departure, arrival)) {
            throw new IllegalArgumentException("no such times of a trip");
        }
        if (table.size >= MOST_TRIPS) {
            throw new IllegalStateException("there are 40 trips");
        }
        return table.append(from, to, departure, arrival);
    }

    public int trip(int trip, int what) throws IndexOutOfBoundsException {
        if (!isTrip(trip) || what < 0 || what >= TRIP_FACTS) {
            throw new IndexOutOfBoundsException("no such trip or what");
        }
        return tripFact(trip, what);
    }

    public int setRules(int driving, int spread, int pause, int rest)
            throws IllegalArgumentException {
        if (driving < 60 || driving > 600 || spread < 240 || spread > 1000) {
            throw new IllegalArgumentException("driving not 60 to 600, or spread not 240 to 1000");
        }
        if (pause < 10 || pause > 90 || rest < 0 || rest > 900) {
            throw new IllegalArgumentException("pause not 10 to 90, or rest not 0 to 900");
        }
        rules.drivingLimit = driving;
        rules.spreadLimit = spread;
        rules.leastBreak = pause;
        rules.leastRest = rest;
        measureDuties();
        return wrongDuties();
    }

    public int count(int what) throws IndexOutOfBoundsException {
        switch (what) {
            case 0:
                return table.size;
            case 1:
                return dutyCount;
            case 2:
                return driverCount;
            case 3:
                return freeTrips();
            default:
                throw new IndexOutOfBoundsException("what is not 0 to 3");
        }
    }

    // ---- duties

    public int addDuty() throws IllegalStateException {
        if (dutyCount >= MOST_DUTIES) {
            throw new IllegalStateException("there are 12 duties");
        }
        return dutyCount++;
    }

    public int put(int duty, int trip) throws IndexOutOfBoundsException, IllegalStateException {
        if (!isDuty(duty) || !isTrip(trip)) {
            throw new IndexOutOfBoundsException("no such duty or trip");
        }
        if (!tryPut(duty, trip)) {
            throw new IllegalStateException("the trip cannot be put into the duty");
        }
        keepPut(duty, trip);
        return dutyAt(duty).placeOf(trip);
    }

    public int takeOut(int trip) throws IndexOutOfBoundsException, IllegalStateException {
        if (!isTrip(trip)) {
            throw new IndexOutOfBoundsException("no such trip");
        }
        int duty = dutyOf(trip);
        if (duty == NONE || isFixed(duty) || !tryWithout(duty, trip)) {
            throw new IllegalStateException("the trip cannot be taken out");
        }
        dutyAt(duty).copy(trial);
        assign(trip, NONE);
        return duty;
    }

    public int duty(int duty, int what) throws IndexOutOfBoundsException {
        if (!isDuty(duty) || what < 0 || what >= DUTY_FACTS) {
            throw new IndexOutOfBoundsException("no such duty or what");
        }
        return dutyFact(duty, what);
    }

    public int tripAt(int duty, int place) throws IndexOutOfBoundsException {
        if (!isDuty(duty) || place < 0 || place >= dutyAt(duty).size) {
            throw new IndexOutOfBoundsException("no such duty or place");
        }
        return dutyAt(duty).tripIn(place);
    }

    public int bestFor(int trip) throws IndexOutOfBoundsException {
        if (!isTrip(trip)) {
            throw new IndexOutOfBoundsException("no such trip");
        }
        return cheapestDuty(trip);
    }

    public int plan() {
        queue.clear();
        for (int trip = 0; trip < table.size; trip++) {
            if (dutyOf(trip) == NONE) {
                queue.insert(table.departureOf(trip), trip);
            }
        }
        for (int place = 0; place < queue.size; place++) {
            planTrip(queue.numberIn(place));
        }
        return freeTrips();
    }

    public int swap(int a, int b, int time)
            throws IndexOutOfBoundsException, IllegalArgumentException, IllegalStateException {
        if (!isDuty(a) || !isDuty(b)) {
            throw new IndexOutOfBoundsException("no such duty");
        }
        if (a == b) {
            throw new IllegalArgumentException("the same duty twice");
        }
        if (isFixed(a) || isFixed(b) || !tryExchange(a, b, time)) {
            throw new IllegalStateException("the tails cannot be exchanged");
        }
        int change = changeOfPay(a, b);
        keepExchange(a, b);
        return change;
    }

    public int improve() {
        best.clear();
        for (int a = 0; a < dutyCount; a++) {
            if (!isFixed(a)) {
                weighPairsOf(a);
            }
        }
        if (best.change < 0 && tryExchange(best.first, best.second, best.time)) {
            keepExchange(best.first, best.second);
        }
        return best.change;
    }

    public int pay() {
        int sum = 0;
        for (int duty = 0; duty < dutyCount; duty++) {
            sum += dutyAt(duty).pay;
        }
        return sum;
    }

    public double use() {
        int minutes = 0;
        for (int trip = 0; trip < table.size; trip++) {
            if (dutyOf(trip) != NONE) {
                minutes += table.minutesOf(trip);
            }
        }
        int work = 0;
        for (int duty = 0; duty < dutyCount; duty++) {
            work += dutyAt(duty).work;
        }
        return work == 0 ? 0.0 : (double) minutes / (double) work;
    }

    // ---- drivers

    public int addDriver() throws IllegalStateException {
        if (driverCount >= MOST_DRIVERS) {
            throw new IllegalStateException("there are 8 drivers");
        }
        return driverCount++;
    }

    public int reason(int driver, int day, int duty) throws IndexOutOfBoundsException {
        if (!isDriver(driver) || !isDay(day) || !isDuty(duty)) {
            throw new IndexOutOfBoundsException("no such driver, day or duty");
        }
        return reasonAgainst(driver, day, duty);
    }

    public int give(int driver, int day, int duty)
            throws IndexOutOfBoundsException, IllegalStateException {
        if (!isDriver(driver) || !isDay(day) || !isDuty(duty)) {
            throw new IndexOutOfBoundsException("no such driver, day or duty");
        }
        if (reasonAgainst(driver, day, duty) != NO_REASON) {
            throw new IllegalStateException("the duty cannot be given to the driver");
        }
        enter(driver, day, duty);
        return weekPay(driver);
    }

    public int takeBack(int driver, int day)
            throws IndexOutOfBoundsException, IllegalStateException {
        if (!isDriver(driver) || !isDay(day)) {
            throw new IndexOutOfBoundsException("no such driver or day");
        }
        int duty = dutyOn(driver, day);
        if (duty == NONE) {
            throw new IllegalStateException("the driver has no duty on this day");
        }
        enter(driver, day, NONE);
        return duty;
    }

    public int given(int driver, int day) throws IndexOutOfBoundsException {
        if (!isDriver(driver) || !isDay(day)) {
            throw new IndexOutOfBoundsException("no such driver or day");
        }
        return dutyOn(driver, day);
    }

    public int fill(int day) throws IndexOutOfBoundsException {
        if (!isDay(day)) {
            throw new IndexOutOfBoundsException("no such day");
        }
        queue.clear();
        for (int duty = 0; duty < dutyCount; duty++) {
            if (isOpenOn(duty, day)) {
                queue.insert(dutyAt(duty).begin, duty);
            }
        }
        for (int place = 0; place < queue.size; place++) {
            fillWith(queue.numberIn(place), day);
        }
        return openDuties(day);
    }

    public int week(int driver) throws IndexOutOfBoundsException {
        if (!isDriver(driver)) {
            throw new IndexOutOfBoundsException("no such driver");
        }
        return weekPay(driver);
    }

    public int rest(int driver, int day) throws IndexOutOfBoundsException {
        if (!isDriver(driver) || !isDay(day) || day == 0) {
            throw new IndexOutOfBoundsException("no such driver, or day is not 1 to 6");
        }
        int earlier = dutyOn(driver, day - 1);
        int later = dutyOn(driver, day);
        return earlier == NONE || later == NONE ? -1 : restBetween(earlier, later);
    }

    public long digest() {
        long d = DIGEST_START * 31 + table.size;
        for (int trip = 0; trip < table.size; trip++) {
            for (int what = 0; what < TRIP_FACTS; what++) {
                d = d * 31 + tripFact(trip, what);
            }
        }
        d = d * 31 + dutyCount;
        for (int duty = 0; duty < dutyCount; duty++) {
            for (int what = 0; what < DUTY_FACTS; what++) {
                d = d * 31 + dutyFact(duty, what);
            }
        }
        d = d * 31 + driverCount;
        for (int driver = 0; driver < driverCount; driver++) {
            for (int day = 0; day < DAYS; day++) {
                d = d * 31 + dutyOn(driver, day);
            }
        }
        return d;
    }

    // ---- what is there

    private static boolean isPoint(int point) {
        return point >= 0 && point < POINTS;
    }

    private static boolean isDay(int day) {
        return day >= 0 && day < DAYS;
    }

    private static boolean areTimesOfTrip(int departure, int arrival) {
        // Both are known to be small when the difference is taken, so it cannot wrap around.
        return departure >= 0 && arrival > departure && arrival <= LAST_MINUTE
                && arrival - departure <= LONGEST_TRIP;
    }

    private boolean isTrip(int trip) {
        return trip >= 0 && trip < table.size;
    }

    private boolean isDuty(int duty) {
        return duty >= 0 && duty < dutyCount;
    }

    private boolean isDriver(int driver) {
        return driver >= 0 && driver < driverCount;
    }

    private Duty dutyAt(int duty) {
        Duty found = duty >= 0 && duty < duties.length ? duties[duty] : noDuty;
        return found == null ? noDuty : found;
    }

    private int dutyOf(int trip) {
        return trip >= 0 && trip < dutyOfTrip.length ? dutyOfTrip[trip] : NONE;
    }

    private void assign(int trip, int duty) {
        if (trip >= 0 && trip < dutyOfTrip.length) {
            dutyOfTrip[trip] = duty;
        }
    }

    private int tripFact(int trip, int what) {
        switch (what) {
            case 0:
                return table.fromOf(trip);
            case 1:
                return table.toOf(trip);
            case 2:
                return table.departureOf(trip);
            case 3:
                return table.arrivalOf(trip);
            default:
                return dutyOf(trip);
        }
    }

    private int dutyFact(int number, int what) {
        Duty duty = dutyAt(number);
        switch (what) {
            case 0:
                return duty.size;
            case 1:
                return duty.begin;
            case 2:
                return duty.end;
            case 3:
                return duty.work;
            case 4:
                return duty.pay;
            case 5:
                return duty.breaks;
            case 6:
                return duty.mostDriving;
            case 7:
                return duty.right ? 1 : 0;
            default:
                return isFixed(number) ? 1 : 0;
        }
    }

    private int freeTrips() {
        int free = 0;
        for (int trip = 0; trip < table.size; trip++) {
            if (dutyOf(trip) == NONE) {
                free++;
            }
        }
        return free;
    }

    private int wrongDuties() {
        int wrong = 0;
        for (int duty = 0; duty < dutyCount; duty++) {
            if (!dutyAt(duty).right) {
                wrong++;
            }
        }
        return wrong;
    }

    private void measureDuties() {
        for (int duty = 0; duty < dutyCount; duty++) {
            dutyAt(duty).measure(table, rules);
        }
    }

    // ---- changes of duties

    /** Whether the trip can be put into the duty; if so, the trial is the duty with it. */
    private boolean tryPut(int duty, int trip) {
        if (dutyOf(trip) != NONE || isFixed(duty)) {
            return false;
        }
        trial.copy(dutyAt(duty));
        if (!trial.insert(trip, table)) {
            return false;
        }
        trial.measure(table, rules);
        return trial.right;
    }

    private void keepPut(int duty, int trip) {
        dutyAt(duty).copy(trial);
        assign(trip, duty);
    }

    /** Whether the duty is right without the trip; the trial is the duty without it. */
    private boolean tryWithout(int duty, int trip) {
        trial.copyWithout(dutyAt(duty), trip);
        trial.measure(table, rules);
        return trial.right;
    }

    private int cheapestDuty(int trip) {
        int cheapest = NONE;
        int leastRise = 0;
        for (int duty = 0; duty < dutyCount; duty++) {
            if (tryPut(duty, trip)) {
                int rise = trial.pay - dutyAt(duty).pay;
                if (cheapest == NONE || rise < leastRise) {
                    cheapest = duty;
                    leastRise = rise;
                }
            }
        }
        return cheapest;
    }

    private void planTrip(int trip) {
        int duty = cheapestDuty(trip);
        if (duty != NONE) {
            if (tryPut(duty, trip)) {
                keepPut(duty, trip);
            }
        } else if (dutyCount < MOST_DUTIES && tryPut(dutyCount, trip)) {
            // The place behind the last duty holds an empty one, which counts from now on.
            keepPut(dutyCount, trip);
            dutyCount++;
        }
    }

    /** Whether both duties are right with their tails exchanged; the trials are these duties. */
    private boolean tryExchange(int a, int b, int time) {
        trial.join(dutyAt(a), dutyAt(b), time, table);
        otherTrial.join(dutyAt(b), dutyAt(a), time, table);
        trial.measure(table, rules);
        otherTrial.measure(table, rules);
        return trial.right && otherTrial.right;
    }

    private int changeOfPay(int a, int b) {
        return trial.pay + otherTrial.pay - dutyAt(a).pay - dutyAt(b).pay;
    }

    private void keepExchange(int a, int b) {
        dutyAt(a).copy(trial);
        dutyAt(b).copy(otherTrial);
        assignTripsOf(a);
        assignTripsOf(b);
    }

    private void assignTripsOf(int number) {
        Duty duty = dutyAt(number);
        for (int place = 0; place < duty.size; place++) {
            assign(duty.tripIn(place), number);
        }
    }

    private void weighPairsOf(int a) {
        for (int b = a + 1; b < dutyCount; b++) {
            if (!isFixed(b)) {
                weighTimesOf(a, a, b);
                weighTimesOf(b, a, b);
            }
        }
    }

    private void weighTimesOf(int number, int a, int b) {
        Duty duty = dutyAt(number);
        for (int place = 0; place < duty.size; place++) {
            int time = table.departureOf(duty.tripIn(place));
            if (tryExchange(a, b, time)) {
                best.offer(a, b, time, changeOfPay(a, b));
            }
        }
    }

    // ---- duties of drivers

    private int dutyOn(int driver, int day) {
        return driver >= 0 && driver < MOST_DRIVERS && day >= 0 && day < DAYS
                ? roster[driver][day] : NONE;
    }

    private void enter(int driver, int day, int duty) {
        if (driver >= 0 && driver < MOST_DRIVERS && day >= 0 && day < DAYS) {
            roster[driver][day] = duty;
        }
    }

    private boolean isHadOn(int duty, int day) {
        for (int driver = 0; driver < driverCount; driver++) {
            if (dutyOn(driver, day) == duty) {
                return true;
            }
        }
        return false;
    }

    private boolean isFixed(int duty) {
        for (int day = 0; day < DAYS; day++) {
            if (isHadOn(duty, day)) {
                return true;
            }
        }
        return false;
    }

    private boolean isOpenOn(int duty, int day) {
        return dutyAt(duty).size > 0 && !isHadOn(duty, day);
    }

    private int openDuties(int day) {
        int open = 0;
        for (int duty = 0; duty < dutyCount; duty++) {
            if (isOpenOn(duty, day)) {
                open++;
            }
        }
        return open;
    }

    private int weekPay(int driver) {
        int sum = 0;
        for (int day = 0; day < DAYS; day++) {
            sum += dutyAt(dutyOn(driver, day)).pay;
        }
        return sum;
    }

    private int reasonAgainst(int driver, int day, int number) {
        Duty duty = dutyAt(number);
        if (duty.size == 0) {
            return NO_TRIPS;
        }
        if (!duty.right) {
            return NOT_RIGHT;
        }
        if (isHadOn(number, day)) {
            return HAD_BY_A_DRIVER;
        }
        if (dutyOn(driver, day) != NONE) {
            return DRIVER_HAS_ONE;
        }
        if (daysInARow(driver, day) >= TOO_MANY_DAYS) {
            return SIX_DAYS;
        }
        if (weekPay(driver) + duty.pay > MOST_WEEK_PAY) {
            return TOO_MUCH_PAY;
        }
        return hasRest(driver, day, number) ? NO_REASON : TOO_LITTLE_REST;
    }

    /** The days one behind the other on which the driver would have duties, this day with them. */
    private int daysInARow(int driver, int day) {
        int first = day;
        while (first > 0 && dutyOn(driver, first - 1) != NONE) {
            first--;
        }
        int last = day;
        while (last < DAYS - 1 && dutyOn(driver, last + 1) != NONE) {
            last++;
        }
        return last - first + 1;
    }

    private boolean hasRest(int driver, int day, int duty) {
        int earlier = dutyOn(driver, day - 1);
        if (earlier != NONE && restBetween(earlier, duty) < rules.leastRest) {
            return false;
        }
        int later = dutyOn(driver, day + 1);
        return later == NONE || restBetween(duty, later) >= rules.leastRest;
    }

    private int restBetween(int earlier, int later) {
        return dutyAt(later).begin + DAY_MINUTES - dutyAt(earlier).end;
    }

    private void fillWith(int duty, int day) {
        int driver = cheapestDriver(day, duty);
        if (driver != NONE) {
            enter(driver, day, duty);
        }
    }

    private int cheapestDriver(int day, int duty) {
        int cheapest = NONE;
        int leastPay = 0;
        for (int driver = 0; driver < driverCount; driver++) {
            if (reasonAgainst(driver, day, duty) == NO_REASON) {
                int pay = weekPay(driver);
                if (cheapest == NONE || pay < leastPay) {
                    cheapest = driver;
                    leastPay = pay;
                }
            }
        }
        return cheapest;
    }

    /** The limits that a duty and the rest of a driver keep. */
    private static final class Rules {
        int drivingLimit = 270;
        int spreadLimit = 720;
        int leastBreak = 30;
        int leastRest = 660;
    }

    /** The ways between the points, and the trips. */
    private static final class Timetable {
        private final int[][] ways = new int[POINTS][POINTS];
        private final int[] from = new int[MOST_TRIPS];
        private final int[] to = new int[MOST_TRIPS];
        private final int[] departure = new int[MOST_TRIPS];
        private final int[] arrival = new int[MOST_TRIPS];
        private int size;

        Timetable() {
            for (int a = 0; a < POINTS; a++) {
                for (int b = 0; b < POINTS; b++) {
                    ways[a][b] = a == b ? 0 : FIRST_WAY;
                }
            }
        }

        int wayFrom(int a, int b) {
            return a >= 0 && a < POINTS && b >= 0 && b < POINTS ? ways[a][b] : 0;
        }

        void changeWay(int a, int b, int minutes) {
            if (a >= 0 && a < POINTS && b >= 0 && b < POINTS) {
                ways[a][b] = minutes;
                ways[b][a] = minutes;
            }
        }

        int append(int start, int goal, int leaves, int arrives) {
            if (size >= MOST_TRIPS) {
                return NONE;
            }
            from[size] = start;
            to[size] = goal;
            departure[size] = leaves;
            arrival[size] = arrives;
            return size++;
        }

        int fromOf(int trip) {
            return trip >= 0 && trip < from.length ? from[trip] : DEPOT;
        }

        int toOf(int trip) {
            return trip >= 0 && trip < to.length ? to[trip] : DEPOT;
        }

        int departureOf(int trip) {
            return trip >= 0 && trip < departure.length ? departure[trip] : 0;
        }

        int arrivalOf(int trip) {
            return trip >= 0 && trip < arrival.length ? arrival[trip] : 0;
        }

        int minutesOf(int trip) {
            return trip >= 0 && trip < departure.length && trip < arrival.length
                    ? arrival[trip] - departure[trip] : 0;
        }
    }

    /** A row of trips in ascending order of their departures, and what was measured of it. */
    private static final class Duty {
        private final int[] trips = new int[MOST_TRIPS];
        private int size;
        private int begin;
        private int end;
        private int work;
        private int pay;
        private int breaks;
        private int mostDriving;
        private boolean right = true;

        int tripIn(int place) {
            return place >= 0 && place < trips.length ? trips[place] : NONE;
        }

        int placeOf(int trip) {
            for (int place = 0; place < size; place++) {
                if (tripIn(place) == trip) {
                    return place;
                }
            }
            return NONE;
        }

        private void append(int trip) {
            if (size >= 0 && size < trips.length) {
                trips[size] = trip;
                size++;
            }
        }

        /** Puts the trip where its departure belongs; refuses a second trip with this departure. */
        boolean insert(int trip, Timetable table) {
            int departure = table.departureOf(trip);
            int place = size;
            while (place > 0 && table.departureOf(tripIn(place - 1)) >= departure) {
                place--;
            }
            boolean taken = place < size && table.departureOf(tripIn(place)) == departure;
            if (taken || size >= trips.length) {
                return false;
            }
            for (int behind = size; behind > place; behind--) {
                trips[behind] = trips[behind - 1];
            }
            trips[place] = trip;
            size++;
            return true;
        }

        void copy(Duty other) {
            size = 0;
            for (int place = 0; place < other.size; place++) {
                append(other.tripIn(place));
            }
            begin = other.begin;
            end = other.end;
            work = other.work;
            pay = other.pay;
            breaks = other.breaks;
            mostDriving = other.mostDriving;
            right = other.right;
        }

        void copyWithout(Duty other, int trip) {
            size = 0;
            for (int place = 0; place < other.size; place++) {
                if (other.tripIn(place) != trip) {
                    append(other.tripIn(place));
                }
            }
        }

        /** Becomes the head of one duty, ahead of the time, and behind it the tail of another. */
        void join(Duty head, Duty tail, int time, Timetable table) {
            size = 0;
            for (int place = 0; place < head.size; place++) {
                if (table.departureOf(head.tripIn(place)) < time) {
                    append(head.tripIn(place));
                }
            }
            for (int place = 0; place < tail.size; place++) {
                if (table.departureOf(tail.tripIn(place)) >= time) {
                    append(tail.tripIn(place));
                }
            }
        }

        void measure(Timetable table, Rules rules) {
            begin = 0;
            end = 0;
            work = 0;
            pay = 0;
            breaks = 0;
            mostDriving = 0;
            right = true;
            if (size > 0) {
                measureSpread(table);
                measureStretches(table, rules);
                pay = payFor(work);
                if (mostDriving > rules.drivingLimit || end - begin > rules.spreadLimit) {
                    right = false;
                }
            }
        }

        private void measureSpread(Timetable table) {
            int first = tripIn(0);
            int last = tripIn(size - 1);
            int wayOut = table.wayFrom(DEPOT, table.fromOf(first));
            int wayHome = table.wayFrom(table.toOf(last), DEPOT);
            begin = table.departureOf(first) - wayOut - AHEAD_OF_DUTY;
            end = table.arrivalOf(last) + wayHome + BEHIND_DUTY;
            work = end - begin;
        }

        private void measureStretches(Timetable table, Rules rules) {
            int earlier = tripIn(0);
            int driving = table.wayFrom(DEPOT, table.fromOf(earlier)) + table.minutesOf(earlier);
            for (int place = 1; place < size; place++) {
                int later = tripIn(place);
                int way = table.wayFrom(table.toOf(earlier), table.fromOf(later));
                int idle = table.departureOf(later) - table.arrivalOf(earlier) - way;
                if (idle < 0) {
                    right = false;
                }
                if (idle >= rules.leastBreak) {
                    breaks++;
                    work -= idle;
                    endStretch(driving);
                    driving = 0;
                }
                driving += way + table.minutesOf(later);
                earlier = later;
            }
            endStretch(driving + table.wayFrom(table.toOf(earlier), DEPOT));
        }

        private void endStretch(int driving) {
            if (driving > mostDriving) {
                mostDriving = driving;
            }
        }

        private static int payFor(int work) {
            int base = work < LEAST_PAY ? LEAST_PAY : work;
            return work > EXTRA_PAY_ABOVE ? base + (work - EXTRA_PAY_ABOVE) / 2 : base;
        }
    }

    /** Numbers in ascending order of their keys; of the same key, in the order they came. */
    private static final class Queue {
        private final int[] keys = new int[MOST_TRIPS];
        private final int[] numbers = new int[MOST_TRIPS];
        private int size;

        void clear() {
            size = 0;
        }

        int numberIn(int place) {
            return place >= 0 && place < numbers.length ? numbers[place] : NONE;
        }

        void insert(int key, int number) {
            if (size >= keys.length) {
                return;
            }
            int place = size;
            while (place > 0 && keys[place - 1] > key) {
                keys[place] = keys[place - 1];
                numbers[place] = numbers[place - 1];
                place--;
            }
            keys[place] = key;
            numbers[place] = number;
            size++;
        }
    }

    /** The best exchange of tails that was seen so far; a change of 0 tells that none saves pay. */
    private static final class Exchange {
        private int first;
        private int second;
        private int time;
        private int change;

        void clear() {
            first = NONE;
            second = NONE;
            time = 0;
            change = 0;
        }

        /** Takes the pairs in ascending order; the times of one pair may come in any order. */
        void offer(int a, int b, int when, int newChange) {
            boolean earlier = newChange == change && a == first && b == second && when < time;
            if (newChange < change || earlier) {
                first = a;
                second = b;
                time = when;
                change = newChange;
            }
        }
    }
}
