import java.util.function.LongSupplier;
import java.util.function.ToLongFunction;

/** Counts the calls whose answer is not the one that is due, and prints each of them. */
final class Check {

    private final String name;
    /** The sentence of the document that is tested just now, or a part of it. */
    private String sentence = "";
    private int sentences;
    private int calls;
    private int wrong;

    Check(String name) {
        this.name = name;
    }

    /** Tests a sentence of the document; what goes wrong in it is reported under its words. */
    void test(String words, Runnable code) {
        sentence = words;
        sentences++;
        int before = calls;
        try {
            code.run();
        } catch (RuntimeException | StackOverflowError thrown) {
            report("the test ended with " + thrown);
        }
        if (calls == before) {
            report("the test checks nothing");
        }
        sentence = "";
    }

    void due(String call, long got, long want) {
        calls++;
        if (got != want) {
            report(call + " answered " + got + ", due is " + want);
        }
    }

    void due(String call, double got, double want) {
        calls++;
        if (got != want) {
            report(call + " answered " + got + ", due is " + want);
        }
    }

    void due(String call, String got, String want) {
        calls++;
        if (!got.equals(want)) {
            report(call + " answered " + got + ", due is " + want);
        }
    }

    /** The call throws exactly this exception, and changes nothing that the digest tells. */
    void dueThrow(DutyDesk desk, String call, Class<? extends RuntimeException> kind,
            LongSupplier code) {
        long before = desk.digest();
        due(call, outcome(code), kind.getName());
        due("digest after " + call, desk.digest(), before);
    }

    void noSuch(DutyDesk desk, String call, LongSupplier code) {
        dueThrow(desk, call, IndexOutOfBoundsException.class, code);
    }

    void badArgument(DutyDesk desk, String call, LongSupplier code) {
        dueThrow(desk, call, IllegalArgumentException.class, code);
    }

    void badState(DutyDesk desk, String call, LongSupplier code) {
        dueThrow(desk, call, IllegalStateException.class, code);
    }

    /** The call throws exactly this exception, and changes nothing that can be seen at all. */
    private void dueThrow(Recipe recipe, String call, Class<? extends RuntimeException> kind,
            ToLongFunction<DutyDesk> code) {
        DutyDesk desk = recipe.make();
        due(call, outcome(() -> code.applyAsLong(desk)), kind.getName());
        due("a look at the desk after " + call, Look.of(desk), Look.of(recipe.make()));
    }

    void noSuch(Recipe recipe, String call, ToLongFunction<DutyDesk> code) {
        dueThrow(recipe, call, IndexOutOfBoundsException.class, code);
    }

    void badArgument(Recipe recipe, String call, ToLongFunction<DutyDesk> code) {
        dueThrow(recipe, call, IllegalArgumentException.class, code);
    }

    void badState(Recipe recipe, String call, ToLongFunction<DutyDesk> code) {
        dueThrow(recipe, call, IllegalStateException.class, code);
    }

    /** What the call answers on a new desk of this recipe. */
    void answer(Recipe recipe, String call, long want, ToLongFunction<DutyDesk> code) {
        DutyDesk desk = recipe.make();
        due(call, outcome(() -> code.applyAsLong(desk)), Long.toString(want));
    }

    /** The call answers this, and changes nothing that can be seen. */
    void onlyAsks(Recipe recipe, String call, long want, ToLongFunction<DutyDesk> code) {
        DutyDesk desk = recipe.make();
        due(call, outcome(() -> code.applyAsLong(desk)), Long.toString(want));
        due("a look at the desk after " + call, Look.of(desk), Look.of(recipe.make()));
    }

    /** The duty has exactly these trips, in this order, and they are in no other duty. */
    void row(String call, DutyDesk x, int duty, int... trips) {
        due(call + ": trips", x.duty(duty, 0), trips.length);
        for (int place = 0; place < trips.length && place < x.duty(duty, 0); place++) {
            due(call + ": place " + place, x.tripAt(duty, place), trips[place]);
            due(call + ": its duty", x.trip(trips[place], 4), duty);
        }
    }

    /** What a call answers, or the name of the class of what it throws. */
    static String outcome(LongSupplier code) {
        try {
            return Long.toString(code.getAsLong());
        } catch (Throwable thrown) {
            return thrown.getClass().getName();
        }
    }

    void report(String text) {
        wrong++;
        if (wrong <= 40) {
            String of = sentence.isEmpty() ? "" : " [" + sentence + "]";
            System.out.println(name + of + ": " + text);
        }
    }

    boolean hasWrong() {
        return wrong > 0;
    }

    /** Ends the test: exit code 1 if a call was wrong. */
    void end() {
        String of = sentences > 0 ? " of " + sentences + " sentences" : "";
        System.out.println(name + ": " + calls + " checks" + of + ", " + wrong + " wrong");
        if (wrong > 0) {
            System.exit(1);
        }
    }
}
