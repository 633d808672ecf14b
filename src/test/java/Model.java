import java.util.ArrayList;
import java.util.Collections;
import java.util.Comparator;
import java.util.List;
import java.util.TreeMap;
import java.util.TreeSet;

/**
 * The document once more, written from its words and without regard to cost, so that runs of calls
 * can be compared with it. Nothing is kept of a duty but which trips it has.
 */
final class Model {

    private final int[][] way = new int[6][6];
    private final List<int[]> trips = new ArrayList<>();
    private final List<TreeMap<Integer, Integer>> duties = new ArrayList<>();
    private final List<Integer[]> drivers = new ArrayList<>();
    private int drivingLimit = 270;
    private int spreadLimit = 720;
    private int leastBreak = 30;
    private int leastRest = 660;

    Model() {
        for (int a = 0; a < 6; a++) {
            for (int b = 0; b < 6; b++) {
                way[a][b] = 15;
            }
            way[a][a] = 0;
        }
    }

    private static void index(boolean fine) {
        if (!fine) {
            throw new IndexOutOfBoundsException();
        }
    }

    private static void argument(boolean fine) {
        if (!fine) {
            throw new IllegalArgumentException();
        }
    }

    private static void state(boolean fine) {
        if (!fine) {
            throw new IllegalStateException();
        }
    }

    private static void within(int number, int from, int to) {
        index(from <= number && number <= to);
    }

    int setWay(int a, int b, int minutes) {
        within(a, 0, 5);
        within(b, 0, 5);
        argument(a != b && 1 <= minutes && minutes <= 90);
        int before = way[a][b];
        way[a][b] = minutes;
        way[b][a] = minutes;
        return before;
    }

    int addTrip(int from, int to, int departure, int arrival) {
        within(from, 0, 5);
        within(to, 0, 5);
        long minutes = (long) arrival - departure;
        argument(departure >= 0 && 1 <= minutes && minutes <= 240 && arrival <= 1799);
        state(trips.size() != 40);
        trips.add(new int[] {from, to, departure, arrival});
        return trips.size() - 1;
    }

    int trip(int trip, int what) {
        within(trip, 0, trips.size() - 1);
        within(what, 0, 4);
        return what == 4 ? dutyOf(trip) : trips.get(trip)[what];
    }

    private int dutyOf(int trip) {
        for (int duty = 0; duty < duties.size(); duty++) {
            if (duties.get(duty).containsValue(trip)) {
                return duty;
            }
        }
        return -1;
    }

    int setRules(int driving, int spread, int pause, int rest) {
        argument(60 <= driving && driving <= 600);
        argument(240 <= spread && spread <= 1000);
        argument(10 <= pause && pause <= 90);
        argument(0 <= rest && rest <= 900);
        drivingLimit = driving;
        spreadLimit = spread;
        leastBreak = pause;
        leastRest = rest;
        int wrong = 0;
        for (TreeMap<Integer, Integer> duty : duties) {
            wrong += isRight(duty) ? 0 : 1;
        }
        return wrong;
    }

    int count(int what) {
        within(what, 0, 3);
        return new int[] {trips.size(), duties.size(), drivers.size(), freeTrips().size()}[what];
    }

    private List<Integer> freeTrips() {
        List<Integer> free = new ArrayList<>();
        for (int trip = 0; trip < trips.size(); trip++) {
            if (dutyOf(trip) < 0) {
                free.add(trip);
            }
        }
        return free;
    }

    int addDuty() {
        state(duties.size() != 12);
        duties.add(new TreeMap<>());
        return duties.size() - 1;
    }

    private boolean isFixed(int duty) {
        for (Integer[] days : drivers) {
            for (Integer given : days) {
                if (given != null && given == duty) {
                    return true;
                }
            }
        }
        return false;
    }

    private boolean canPut(int duty, int trip) {
        return dutyOf(trip) < 0 && !isFixed(duty)
                && !duties.get(duty).containsKey(trips.get(trip)[2])
                && isRight(with(duties.get(duty), trip));
    }

    private TreeMap<Integer, Integer> with(TreeMap<Integer, Integer> duty, int trip) {
        TreeMap<Integer, Integer> more = new TreeMap<>(duty);
        more.put(trips.get(trip)[2], trip);
        return more;
    }

    int put(int duty, int trip) {
        within(duty, 0, duties.size() - 1);
        within(trip, 0, trips.size() - 1);
        state(canPut(duty, trip));
        duties.set(duty, with(duties.get(duty), trip));
        return duties.get(duty).headMap(trips.get(trip)[2]).size();
    }

    int takeOut(int trip) {
        within(trip, 0, trips.size() - 1);
        int duty = dutyOf(trip);
        state(duty >= 0);
        TreeMap<Integer, Integer> less = new TreeMap<>(duties.get(duty));
        less.remove(trips.get(trip)[2]);
        state(!isFixed(duty) && isRight(less));
        duties.set(duty, less);
        return duty;
    }

    /** The stretches of a duty, each a row of trips. */
    private List<List<int[]>> stretches(TreeMap<Integer, Integer> duty) {
        List<List<int[]>> rows = new ArrayList<>();
        int[] before = null;
        for (int number : duty.values()) {
            int[] trip = trips.get(number);
            if (before == null || idle(before, trip) >= leastBreak) {
                rows.add(new ArrayList<>());
            }
            rows.get(rows.size() - 1).add(trip);
            before = trip;
        }
        return rows;
    }

    private int idle(int[] earlier, int[] later) {
        return later[2] - earlier[3] - way[earlier[1]][later[0]];
    }

    private List<int[]> row(TreeMap<Integer, Integer> duty) {
        List<int[]> row = new ArrayList<>();
        for (int number : duty.values()) {
            row.add(trips.get(number));
        }
        return row;
    }

    private int begin(TreeMap<Integer, Integer> duty) {
        if (duty.isEmpty()) {
            return 0;
        }
        int[] first = row(duty).get(0);
        return first[2] - way[0][first[0]] - 10;
    }

    private int end(TreeMap<Integer, Integer> duty) {
        if (duty.isEmpty()) {
            return 0;
        }
        int[] last = row(duty).get(duty.size() - 1);
        return last[3] + way[last[1]][0] + 5;
    }

    private int work(TreeMap<Integer, Integer> duty) {
        int work = end(duty) - begin(duty);
        List<List<int[]>> rows = stretches(duty);
        for (int i = 1; i < rows.size(); i++) {
            List<int[]> ahead = rows.get(i - 1);
            work -= idle(ahead.get(ahead.size() - 1), rows.get(i).get(0));
        }
        return work;
    }

    private int payOf(TreeMap<Integer, Integer> duty) {
        if (duty.isEmpty()) {
            return 0;
        }
        int work = work(duty);
        return Math.max(360, work) + Math.max(0, work - 480) / 2;
    }

    private int breaks(TreeMap<Integer, Integer> duty) {
        return Math.max(0, stretches(duty).size() - 1);
    }

    private int mostDriving(TreeMap<Integer, Integer> duty) {
        int most = 0;
        int point = 0;
        List<List<int[]>> rows = stretches(duty);
        for (int i = 0; i < rows.size(); i++) {
            int driving = 0;
            for (int[] trip : rows.get(i)) {
                driving += way[point][trip[0]] + trip[3] - trip[2];
                point = trip[1];
            }
            if (i == rows.size() - 1) {
                driving += way[point][0];
            }
            most = Math.max(most, driving);
        }
        return most;
    }

    private boolean isRight(TreeMap<Integer, Integer> duty) {
        List<int[]> row = row(duty);
        for (int i = 1; i < row.size(); i++) {
            if (idle(row.get(i - 1), row.get(i)) < 0) {
                return false;
            }
        }
        return mostDriving(duty) <= drivingLimit && end(duty) - begin(duty) <= spreadLimit;
    }

    int duty(int duty, int what) {
        within(duty, 0, duties.size() - 1);
        within(what, 0, 8);
        TreeMap<Integer, Integer> it = duties.get(duty);
        return new int[] {it.size(), begin(it), end(it), work(it), payOf(it), breaks(it),
            mostDriving(it), isRight(it) ? 1 : 0, isFixed(duty) ? 1 : 0}[what];
    }

    int tripAt(int duty, int place) {
        within(duty, 0, duties.size() - 1);
        within(place, 0, duties.get(duty).size() - 1);
        return new ArrayList<>(duties.get(duty).values()).get(place);
    }

    int bestFor(int trip) {
        within(trip, 0, trips.size() - 1);
        TreeMap<Integer, Integer> dutyOfRise = new TreeMap<>();
        for (int duty = 0; duty < duties.size(); duty++) {
            if (canPut(duty, trip)) {
                int rise = payOf(with(duties.get(duty), trip)) - payOf(duties.get(duty));
                dutyOfRise.putIfAbsent(rise, duty);
            }
        }
        return dutyOfRise.isEmpty() ? -1 : dutyOfRise.firstEntry().getValue();
    }

    int plan() {
        List<Integer> free = freeTrips();
        free.sort(Comparator.comparingInt((Integer trip) -> trips.get(trip)[2])
                .thenComparingInt(trip -> trip));
        for (int trip : free) {
            int duty = bestFor(trip);
            if (duty >= 0) {
                put(duty, trip);
            } else if (duties.size() < 12 && isRight(with(new TreeMap<>(), trip))) {
                put(addDuty(), trip);
            }
        }
        return freeTrips().size();
    }

    private static TreeMap<Integer, Integer> joined(TreeMap<Integer, Integer> head,
            TreeMap<Integer, Integer> tail, int time) {
        TreeMap<Integer, Integer> both = new TreeMap<>(head.headMap(time, false));
        both.putAll(tail.tailMap(time, true));
        return both;
    }

    int swap(int a, int b, int time) {
        within(a, 0, duties.size() - 1);
        within(b, 0, duties.size() - 1);
        argument(a != b);
        TreeMap<Integer, Integer> newA = joined(duties.get(a), duties.get(b), time);
        TreeMap<Integer, Integer> newB = joined(duties.get(b), duties.get(a), time);
        state(!isFixed(a) && !isFixed(b) && isRight(newA) && isRight(newB));
        int before = pay();
        duties.set(a, newA);
        duties.set(b, newB);
        return pay() - before;
    }

    int improve() {
        List<int[]> exchanges = new ArrayList<>();
        for (int a = 0; a < duties.size(); a++) {
            for (int b = a + 1; b < duties.size(); b++) {
                TreeSet<Integer> times = new TreeSet<>(duties.get(a).keySet());
                times.addAll(duties.get(b).keySet());
                for (int time : times) {
                    addExchange(exchanges, a, b, time);
                }
            }
        }
        if (exchanges.isEmpty()) {
            return 0;
        }
        // They stand in ascending order of a, b and time, and min() takes the first of the least.
        int[] best = Collections.min(exchanges, Comparator.comparingInt(exchange -> exchange[3]));
        return best[3] < 0 ? swap(best[0], best[1], best[2]) : 0;
    }

    private void addExchange(List<int[]> exchanges, int a, int b, int time) {
        List<TreeMap<Integer, Integer>> before = new ArrayList<>(duties);
        try {
            exchanges.add(new int[] {a, b, time, swap(a, b, time)});
        } catch (IllegalStateException notAllowed) {
            return;
        }
        duties.clear();
        duties.addAll(before);
    }

    int pay() {
        return duties.stream().mapToInt(this::payOf).sum();
    }

    double use() {
        int minutes = 0;
        int work = 0;
        for (TreeMap<Integer, Integer> duty : duties) {
            work += work(duty);
            for (int[] trip : row(duty)) {
                minutes += trip[3] - trip[2];
            }
        }
        return minutes == 0 ? 0 : (double) minutes / work;
    }

    int addDriver() {
        state(drivers.size() != 8);
        drivers.add(new Integer[7]);
        return drivers.size() - 1;
    }

    int reason(int driver, int day, int duty) {
        within(driver, 0, drivers.size() - 1);
        within(day, 0, 6);
        within(duty, 0, duties.size() - 1);
        TreeMap<Integer, Integer> it = duties.get(duty);
        if (it.isEmpty()) {
            return 1;
        }
        if (!isRight(it)) {
            return 2;
        }
        if (isHad(duty, day)) {
            return 3;
        }
        if (given(driver, day) >= 0) {
            return 4;
        }
        Integer[] days = drivers.get(driver).clone();
        days[day] = duty;
        if (hasSixDays(days)) {
            return 5;
        }
        if (payOfWeek(days) > 2880) {
            return 6;
        }
        return hasRest(days, day) && hasRest(days, day + 1) ? 0 : 7;
    }

    private boolean isHad(int duty, int day) {
        for (int driver = 0; driver < drivers.size(); driver++) {
            if (given(driver, day) == duty) {
                return true;
            }
        }
        return false;
    }

    private static boolean hasSixDays(Integer[] days) {
        StringBuilder text = new StringBuilder();
        for (Integer duty : days) {
            text.append(duty == null ? '.' : 'x');
        }
        return text.indexOf("xxxxxx") >= 0;
    }

    private int payOfWeek(Integer[] days) {
        int sum = 0;
        for (Integer duty : days) {
            sum += duty == null ? 0 : payOf(duties.get(duty));
        }
        return sum;
    }

    private boolean hasRest(Integer[] days, int day) {
        return day < 1 || day > 6 || days[day - 1] == null || days[day] == null
                || restAhead(days, day) >= leastRest;
    }

    private int restAhead(Integer[] days, int day) {
        return begin(duties.get(days[day])) + 1440 - end(duties.get(days[day - 1]));
    }

    int give(int driver, int day, int duty) {
        state(reason(driver, day, duty) == 0);
        drivers.get(driver)[day] = duty;
        return week(driver);
    }

    int takeBack(int driver, int day) {
        int duty = given(driver, day);
        state(duty >= 0);
        drivers.get(driver)[day] = null;
        return duty;
    }

    int given(int driver, int day) {
        within(driver, 0, drivers.size() - 1);
        within(day, 0, 6);
        Integer duty = drivers.get(driver)[day];
        return duty == null ? -1 : duty;
    }

    private List<Integer> openDuties(int day) {
        List<Integer> open = new ArrayList<>();
        for (int duty = 0; duty < duties.size(); duty++) {
            if (!duties.get(duty).isEmpty() && !isHad(duty, day)) {
                open.add(duty);
            }
        }
        return open;
    }

    int fill(int day) {
        within(day, 0, 6);
        List<Integer> open = openDuties(day);
        open.sort(Comparator.comparingInt(duty -> begin(duties.get(duty))));
        for (int duty : open) {
            TreeMap<Integer, Integer> driverOfPay = new TreeMap<>();
            for (int driver = 0; driver < drivers.size(); driver++) {
                if (reason(driver, day, duty) == 0) {
                    driverOfPay.putIfAbsent(week(driver), driver);
                }
            }
            if (!driverOfPay.isEmpty()) {
                give(driverOfPay.firstEntry().getValue(), day, duty);
            }
        }
        return openDuties(day).size();
    }

    int week(int driver) {
        within(driver, 0, drivers.size() - 1);
        return payOfWeek(drivers.get(driver));
    }

    int rest(int driver, int day) {
        within(driver, 0, drivers.size() - 1);
        within(day, 1, 6);
        Integer[] days = drivers.get(driver);
        return days[day - 1] == null || days[day] == null ? -1 : restAhead(days, day);
    }

    long digest() {
        List<Integer> numbers = new ArrayList<>();
        numbers.add(trips.size());
        for (int trip = 0; trip < trips.size(); trip++) {
            for (int what = 0; what < 5; what++) {
                numbers.add(trip(trip, what));
            }
        }
        numbers.add(duties.size());
        for (int duty = 0; duty < duties.size(); duty++) {
            for (int what = 0; what < 9; what++) {
                numbers.add(duty(duty, what));
            }
        }
        numbers.add(drivers.size());
        for (int driver = 0; driver < drivers.size(); driver++) {
            for (int day = 0; day < 7; day++) {
                numbers.add(given(driver, day));
            }
        }
        long d = 311;
        for (int number : numbers) {
            d = 31 * d + number;
        }
        return d;
    }
}
