import java.util.ArrayList;
import java.util.List;
import java.util.function.LongSupplier;

/**
 * All promises: long runs of calls, each answer and each exception compared with the model's. The
 * calls come from a generator with a fixed start, so each run is the same every time.
 */
public final class ModelTest {

    private static final Check CHECK = new Check("ModelTest");
    private static final int RUNS = 320;
    private static final int KINDS = 8;
    /** Runs of this kind and the next one are about drivers whose weeks are nearly full. */
    private static final int FULL_WEEKS = 6;
    /** The document promises 512 calls for an object. */
    private static final int CALLS = 512;

    private final DutyDesk desk = new DutyDesk();
    private final Model model = new Model();
    private final int run;
    /** How the run is: which kinds of trips and rules it prefers. */
    private final int kind;
    private long seed;
    private int calls;
    private final List<String> history = new ArrayList<>();

    private ModelTest(int run) {
        this.run = run;
        this.kind = run % KINDS;
        this.seed = 0x9E3779B97F4A7C15L * (run + 1);
    }

    public static void main(String[] args) {
        for (int run = 0; run < RUNS && !CHECK.hasWrong(); run++) {
            ModelTest test = new ModelTest(run);
            test.play();
            if (CHECK.hasWrong()) {
                for (String call : test.history) {
                    System.out.println("  " + call);
                }
            }
        }
        CHECK.end();
    }

    /** A number from 0 to less than the bound. */
    private int next(int bound) {
        seed = seed * 6364136223846793005L + 1442695040888963407L;
        return (int) ((seed >>> 33) % bound);
    }

    private boolean oneOf(int many) {
        return next(many) == 0;
    }

    private void play() {
        if (kind >= FULL_WEEKS) {
            setRules(600, 1000, 10 + next(81), next(400));
        }
        while (calls < CALLS && !CHECK.hasWrong()) {
            if (calls < 60 && !oneOf(4)) {
                addTrip();
            } else if (kind >= FULL_WEEKS && !oneOf(6)) {
                fillWeeks();
            } else {
                call();
            }
            if (calls < CALLS) {
                compare("digest()", desk::digest, model::digest);
            }
        }
    }

    private void compare(String call, LongSupplier real, LongSupplier due) {
        calls++;
        String got = Check.outcome(real);
        String want = Check.outcome(due);
        if (!call.equals("digest()")) {
            history.add(call + " -> " + got);
        }
        CHECK.due("run " + run + ", call " + calls + ", " + call, got, want);
    }

    /** Mostly a number from 0 to less than many; at times one beside it, or a far one. */
    private int number(int many) {
        int dice = next(60);
        if (dice == 0) {
            return -1;
        }
        if (dice == 1) {
            return many;
        }
        if (dice == 2) {
            return oneOf(2) ? Integer.MIN_VALUE : Integer.MAX_VALUE;
        }
        return next(many < 1 ? 1 : many);
    }

    private int point() {
        int reach = kind == 0 ? 1 : kind == 1 || kind >= FULL_WEEKS ? 2 : 6;
        return oneOf(30) ? number(6) : next(reach);
    }

    private void addTrip() {
        int from = point();
        int to = point();
        int step = kind == 2 ? 1 : 10;
        int departure = kind == 3 ? next(1799) : 200 + step * next(kind == 4 ? 30 : 90);
        int minutes = kind >= 5 ? 1 + next(240) : 10 + 5 * next(20);
        int arrival = oneOf(40) ? number(1800) : departure + minutes;
        int leaves = oneOf(40) ? number(1800) : departure;
        compare("addTrip(" + from + ", " + to + ", " + leaves + ", " + arrival + ")",
                () -> desk.addTrip(from, to, leaves, arrival),
                () -> model.addTrip(from, to, leaves, arrival));
    }

    private void call() {
        int dice = next(100);
        if (dice < 40) {
            changeDuties();
        } else if (dice < 70) {
            changeDrivers();
        } else if (dice < 80) {
            changeWaysOrRules();
        } else {
            ask();
        }
    }

    private void changeDuties() {
        int trip = number(model.count(0));
        int duty = number(model.count(1));
        int other = number(model.count(1));
        switch (next(8)) {
            case 0:
                compare("addDuty()", desk::addDuty, model::addDuty);
                break;
            case 1:
            case 2:
                compare("put(" + duty + ", " + trip + ")",
                        () -> desk.put(duty, trip), () -> model.put(duty, trip));
                break;
            case 3:
            case 4:
                compare("takeOut(" + trip + ")",
                        () -> desk.takeOut(trip), () -> model.takeOut(trip));
                break;
            case 5:
                if (oneOf(3)) {
                    compare("plan()", desk::plan, model::plan);
                }
                break;
            case 6:
                int time = trip >= 0 && trip < model.count(0) ? model.trip(trip, 2) : trip;
                int when = oneOf(2) ? time : time + next(3) - 1;
                compare("swap(" + duty + ", " + other + ", " + when + ")",
                        () -> desk.swap(duty, other, when), () -> model.swap(duty, other, when));
                break;
            default:
                compare("improve()", desk::improve, model::improve);
                break;
        }
    }

    private void changeDrivers() {
        int dice = next(12);
        if (dice < 2) {
            addDriver();
        } else if (dice < 6) {
            give();
        } else if (dice < 11) {
            takeBack();
        } else {
            fill();
        }
    }

    /** Few drivers and few duties taken back: so six days, pay and rest stand in the way. */
    private void fillWeeks() {
        int dice = next(20);
        if (model.count(2) <= kind - FULL_WEEKS) {
            addDriver();
        } else if (dice < 8) {
            give();
        } else if (dice < 16) {
            askReason();
        } else if (dice < 17) {
            compare("plan()", desk::plan, model::plan);
        } else if (dice < 18) {
            fill();
        } else {
            takeBack();
        }
    }

    private void addDriver() {
        compare("addDriver()", desk::addDriver, model::addDriver);
    }

    private void give() {
        int driver = number(model.count(2));
        int day = number(7);
        int duty = number(model.count(1));
        compare("give(" + driver + ", " + day + ", " + duty + ")",
                () -> desk.give(driver, day, duty), () -> model.give(driver, day, duty));
    }

    private void takeBack() {
        int driver = number(model.count(2));
        int day = number(7);
        compare("takeBack(" + driver + ", " + day + ")",
                () -> desk.takeBack(driver, day), () -> model.takeBack(driver, day));
    }

    private void fill() {
        int day = number(7);
        compare("fill(" + day + ")", () -> desk.fill(day), () -> model.fill(day));
    }

    private void askReason() {
        int driver = number(model.count(2));
        int day = number(7);
        int duty = number(model.count(1));
        compare("reason(" + driver + ", " + day + ", " + duty + ")",
                () -> desk.reason(driver, day, duty), () -> model.reason(driver, day, duty));
    }

    private void changeWaysOrRules() {
        if (oneOf(2)) {
            int a = point();
            int b = point();
            int minutes = oneOf(20) ? number(92) : 1 + next(oneOf(4) ? 90 : 25);
            compare("setWay(" + a + ", " + b + ", " + minutes + ")",
                    () -> desk.setWay(a, b, minutes), () -> model.setWay(a, b, minutes));
            return;
        }
        int driving = oneOf(20) ? number(602) : 200 + next(401);
        int spread = oneOf(20) ? number(1002) : 600 + next(401);
        int pause = oneOf(20) ? number(92) : 10 + next(81);
        int rest = oneOf(20) ? number(902) : next(901);
        setRules(driving, spread, pause, rest);
    }

    private void setRules(int driving, int spread, int pause, int rest) {
        compare("setRules(" + driving + ", " + spread + ", " + pause + ", " + rest + ")",
                () -> desk.setRules(driving, spread, pause, rest),
                () -> model.setRules(driving, spread, pause, rest));
    }

    private void ask() {
        int trip = number(model.count(0));
        int duty = number(model.count(1));
        int driver = number(model.count(2));
        int day = number(7);
        int what = number(9);
        switch (next(11)) {
            case 0:
                compare("trip(" + trip + ", " + what + ")",
                        () -> desk.trip(trip, what), () -> model.trip(trip, what));
                break;
            case 1:
                compare("count(" + what + ")", () -> desk.count(what), () -> model.count(what));
                break;
            case 2:
                compare("duty(" + duty + ", " + what + ")",
                        () -> desk.duty(duty, what), () -> model.duty(duty, what));
                break;
            case 3:
                compare("tripAt(" + duty + ", " + what + ")",
                        () -> desk.tripAt(duty, what), () -> model.tripAt(duty, what));
                break;
            case 4:
                compare("bestFor(" + trip + ")",
                        () -> desk.bestFor(trip), () -> model.bestFor(trip));
                break;
            case 5:
                compare("pay()", desk::pay, model::pay);
                break;
            case 6:
                compare("use()", () -> Double.doubleToLongBits(desk.use()),
                        () -> Double.doubleToLongBits(model.use()));
                break;
            case 7:
                askReason();
                break;
            case 8:
                compare("given(" + driver + ", " + day + ")",
                        () -> desk.given(driver, day), () -> model.given(driver, day));
                break;
            case 9:
                compare("week(" + driver + ")", () -> desk.week(driver), () -> model.week(driver));
                break;
            default:
                compare("rest(" + driver + ", " + day + ")",
                        () -> desk.rest(driver, day), () -> model.rest(driver, day));
                break;
        }
    }
}
