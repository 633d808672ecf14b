import java.io.IOException;
import java.nio.file.Files;
import java.nio.file.Path;
import java.util.ArrayList;
import java.util.List;

/**
 * The example in README.md: each of its calls answers the number behind it there. It is run from the
 * root of the project, where README.md is.
 */
public final class ReadmeTest {

    private static final Check CHECK = new Check("ReadmeTest");
    private static final String CALL = "desk.";

    private final List<String> example = exampleLines();
    private int lines;

    public static void main(String[] args) {
        new ReadmeTest().play(new DutyDesk());
        CHECK.end();
    }

    private void play(DutyDesk desk) {
        due("setWay(0, 1, 20)", desk.setWay(0, 1, 20));
        due("addTrip(0, 1, 300, 360)", desk.addTrip(0, 1, 300, 360));
        due("addTrip(1, 0, 400, 480)", desk.addTrip(1, 0, 400, 480));
        due("addTrip(1, 2, 410, 500)", desk.addTrip(1, 2, 410, 500));
        due("plan()", desk.plan());
        due("count(1)", desk.count(1));
        due("tripAt(0, 1)", desk.tripAt(0, 1));
        due("duty(0, 3)", desk.duty(0, 3));
        due("pay()", desk.pay());
        due("improve()", desk.improve());
        due("addDriver()", desk.addDriver());
        due("reason(0, 6, 1)", desk.reason(0, 6, 1));
        due("fill(6)", desk.fill(6));
        due("given(0, 6)", desk.given(0, 6));
        due("reason(0, 6, 1)", desk.reason(0, 6, 1));
        due("week(0)", desk.week(0));
        CHECK.due("lines of the example", example.size(), lines);
    }

    /** The next line of the example is this call, and tells this answer. */
    private void due(String call, long answer) {
        String line = lines < example.size() ? example.get(lines) : "";
        String told = line.replaceAll(" *// (-?[0-9]+):.*", " $1");
        CHECK.due("line " + lines + " of the example", told, CALL + call + "; " + answer);
        lines++;
    }

    private static List<String> exampleLines() {
        List<String> found = new ArrayList<>();
        try {
            for (String line : Files.readAllLines(Path.of("README.md"))) {
                if (line.startsWith(CALL)) {
                    found.add(line);
                }
            }
        } catch (IOException thrown) {
            CHECK.report("README.md cannot be read: " + thrown);
        }
        return found;
    }
}
