import java.util.function.LongSupplier;

/**
 * All that can be seen of a desk: what it answers, and what it does with further calls. Two desks
 * with the same look are in the same state. The look spoils the desk.
 */
final class Look {

    /** The document promises 512 calls for an object, those that made the desk among them. */
    private static final int MOST_REASONS = 120;

    private final DutyDesk x;
    private final StringBuilder seen = new StringBuilder();

    private Look(DutyDesk x) {
        this.x = x;
    }

    static String of(DutyDesk x) {
        Look look = new Look(x);
        look.answers();
        look.reasons();
        look.measuresAgain();
        look.drivers();
        look.duties();
        look.ways();
        look.room();
        return look.seen.toString();
    }

    private void see(String call, LongSupplier code) {
        seen.append(call).append(' ').append(Check.outcome(code)).append("; ");
    }

    private void answers() {
        see("digest", x::digest);
        see("pay", x::pay);
        see("use", () -> Double.doubleToLongBits(x.use()));
        see("free", () -> x.count(3));
        int duties = x.count(1);
        for (int i = 0; i < duties; i++) {
            int duty = i;
            int size = x.duty(duty, 0);
            for (int j = 0; j < size; j++) {
                int place = j;
                see("tripAt " + duty + " " + place, () -> x.tripAt(duty, place));
            }
        }
        int trips = x.count(0);
        for (int i = 0; i < trips; i++) {
            int trip = i;
            see("bestFor " + trip, () -> x.bestFor(trip));
        }
        int drivers = x.count(2);
        for (int i = 0; i < drivers; i++) {
            int driver = i;
            see("week " + driver, () -> x.week(driver));
        }
    }

    private void reasons() {
        int duties = x.count(1);
        int drivers = x.count(2);
        if (drivers * duties * 7 > MOST_REASONS) {
            return;
        }
        for (int i = 0; i < drivers * duties * 7; i++) {
            int driver = i / 7 % drivers;
            int day = i % 7;
            int duty = i / 7 / drivers;
            see("reason " + driver + " " + day + " " + duty, () -> x.reason(driver, day, duty));
        }
    }

    /** A rule that was changed in secret would show when duties are measured again. */
    private void measuresAgain() {
        see("way 4 5", () -> x.setWay(4, 5, 40));
        see("digest", x::digest);
    }

    private void drivers() {
        for (int i = 0; i < 7; i++) {
            int day = i;
            see("fill " + day, () -> x.fill(day));
        }
        see("digest", x::digest);
        int days = x.count(2) * 7;
        for (int i = 0; i < days; i++) {
            int driver = i / 7;
            int day = i % 7;
            see("takeBack " + driver + " " + day, () -> x.takeBack(driver, day));
        }
    }

    private void duties() {
        see("improve", x::improve);
        see("digest", x::digest);
        see("plan", x::plan);
        see("digest", x::digest);
        int trips = x.count(0);
        for (int i = 0; i < trips; i++) {
            int trip = i;
            see("takeOut " + trip, () -> x.takeOut(trip));
        }
    }

    private void ways() {
        for (int i = 0; i < 6; i++) {
            for (int j = i + 1; j < 6; j++) {
                int a = i;
                int b = j;
                see("way " + a + " " + b, () -> x.setWay(a, b, 15));
            }
        }
        see("plan", x::plan);
        see("digest", x::digest);
    }

    private void room() {
        see("addTrip", () -> x.addTrip(0, 0, 0, 1));
        see("addDuty", x::addDuty);
        see("addDriver", x::addDriver);
    }
}
