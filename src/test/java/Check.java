import java.util.function.LongSupplier;

/** Counts the calls whose answer is not the one that is due, and prints each of them. */
final class Check {

    private final String name;
    private int calls;
    private int wrong;

    Check(String name) {
        this.name = name;
    }

    void due(String call, long got, long want) {
        calls++;
        if (got != want) {
            report(call + " answered " + got + ", due is " + want);
        }
    }

    void due(String call, double got, double want) {
        calls++;
        if (got != want) {
            report(call + " answered " + got + ", due is " + want);
        }
    }

    void due(String call, String got, String want) {
        calls++;
        if (!got.equals(want)) {
            report(call + " answered " + got + ", due is " + want);
        }
    }

    /** The call throws exactly this exception, and changes nothing that the digest tells. */
    void dueThrow(DutyDesk desk, String call, Class<? extends RuntimeException> kind,
            LongSupplier code) {
        long before = desk.digest();
        due(call, outcome(code), kind.getName());
        due("digest after " + call, desk.digest(), before);
    }

    void noSuch(DutyDesk desk, String call, LongSupplier code) {
        dueThrow(desk, call, IndexOutOfBoundsException.class, code);
    }

    void badArgument(DutyDesk desk, String call, LongSupplier code) {
        dueThrow(desk, call, IllegalArgumentException.class, code);
    }

    void badState(DutyDesk desk, String call, LongSupplier code) {
        dueThrow(desk, call, IllegalStateException.class, code);
    }

    /** What a call answers, or the name of the class of what it throws. */
    static String outcome(LongSupplier code) {
        try {
            return Long.toString(code.getAsLong());
        } catch (Throwable thrown) {
            return thrown.getClass().getName();
        }
    }

    void report(String text) {
        wrong++;
        if (wrong <= 40) {
            System.out.println(name + ": " + text);
        }
    }

    boolean hasWrong() {
        return wrong > 0;
    }

    /** Ends the test: exit code 1 if a call was wrong. */
    void end() {
        System.out.println(name + ": " + calls + " checks, " + wrong + " wrong");
        if (wrong > 0) {
            System.exit(1);
        }
    }
}
