import java.io.IOException;
import java.nio.file.Files;
import java.nio.file.Path;
import java.util.ArrayList;
import java.util.List;
import java.util.regex.Matcher;
import java.util.regex.Pattern;

/** The examples of README.md answer what stands behind them. */
public final class ReadmeTest {
    // A call, and the number that its comment begins with.
    private static final Pattern EXAMPLE = Pattern.compile("(?m)^bay\\.(\\w+\\([^;]*?(?:';')?\\)); +// (-?\\d+)");

    private final List<String> calls = new ArrayList<>();
    private final List<Integer> answers = new ArrayList<>();

    public static void main(String[] args) {
        Check.all(ReadmeTest.class);
    }

    static void theExamples(Check check) throws IOException {
        ReadmeTest due = new ReadmeTest();
        due.theOrders();
        due.theTimetable();
        Matcher example = EXAMPLE.matcher(Files.readString(Path.of("README.md")));
        int found = 0;
        for (; found < due.calls.size() && example.find(); found++) {
            check.yes("the example is " + due.calls.get(found) + ": " + example.group(1),
                    example.group(1).equals(due.calls.get(found)));
            check.due(due.calls.get(found), due.answers.get(found), Integer.parseInt(example.group(2)));
        }
        check.due("number of examples that are found", found, due.calls.size());
        check.yes("there is no other example", !example.find());
    }

    private void theOrders() {
        StarterBay bay = new StarterBay();
        add("addMotor(10, 2, 2, 1000)", bay.addMotor(10, 2, 2, 1000));
        add("startHeat(0)", bay.startHeat(0));
        add("request(0)", bay.request(0));
        add("pass(2)", bay.pass(2));
        add("motor(0, 5)", bay.motor(0, 5));
        add("losePhases(0, 1)", bay.losePhases(0, 1));
        add("pass(3)", bay.pass(3));
        add("motor(0, 11)", bay.motor(0, 11));
        add("reset(0)", bay.reset(0));
        add("count(8)", bay.count(8));
        add("undo()", bay.undo());
        add("motor(0, 5)", bay.motor(0, 5));
    }

    private void theTimetable() {
        StarterBay bay = new StarterBay();
        add("addMotor(10, 2, 2, 1000)", bay.addMotor(10, 2, 2, 1000));
        Bays.typeAll(bay, "0 start 0;5 stop 0");
        add("readTimetable()", bay.readTimetable());
        add("pass(5)", bay.pass(5));
        add("item(0, 0)", bay.item(0, 0));
        add("type(';')", bay.type(';'));
        add("readTimetable()", bay.readTimetable());
    }

    private void add(String call, int answer) {
        calls.add(call);
        answers.add(answer);
    }
}
