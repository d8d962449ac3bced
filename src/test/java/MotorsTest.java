/** Promises 1 to 5. */
public final class MotorsTest {
    private static final String RETURNS_NUMBER = "Returns its number; BAD_VALUE; REFUSED for the reason 5 if there are 8.";

    public static void main(String[] args) {
        Check.all(MotorsTest.class);
    }

    @Sentence(of = "Promise 1", says = "Creates a bay without motors; the fan is off.")
    static void newObject(Check check) {
        StarterBay bay = new StarterBay();
        for (int what = 0; what <= 17; what++) {
            check.due("count(" + what + ")", bay.count(what), what == 6 ? 500 : 0);
        }
        check.due("motor(0, 0)", bay.motor(0, 0), Bays.U);
        check.due("queue(0)", bay.queue(0), Bays.N);
        check.due("event(0, 0)", bay.event(0, 0), Bays.N);
        check.due("item(0, 0)", bay.item(0, 0), Bays.N);
        check.due("setFan(false)", bay.setFan(false), Bays.N);
        check.due("undo()", bay.undo(), Bays.N);
        check.due("restore()", bay.restore(), Bays.N);
        check.due("clearText()", bay.clearText(), 0);
        check.due("pass(60)", bay.pass(60), 0);
        check.due("count(5)", bay.count(5), 60);
    }

    @Sentence(of = "Promise 1", says = "Creates a bay without motors; the fan is off.")
    static void oneObjectTellsNothingOfAnother(Check check) {
        StarterBay one = new StarterBay();
        String told = Everything.of(one);
        StarterBay other = new StarterBay();
        Bays.inMode(other, 4);
        other.setFan(true);
        other.stop(0);
        Bays.read(other, "9 fan 1");
        other.keep();
        check.yes("the first one is as it was", Everything.of(one).equals(told));
        check.yes("a third one is new", Everything.of(new StarterBay()).equals(told));
        check.due("restore() of the first one", one.restore(), Bays.N);
    }

    @Sentence(of = "Promise 2", says = {"Adds a motor.", "This is an act."})
    static void addsAMotor(Check check) {
        Twins.undone(check, "addMotor(20, 3, 4, 5000)", bay -> Bays.addSmall(bay, 1), bay -> bay.addMotor(20, 3, 4, 5000), 1);
        StarterBay bay = new StarterBay();
        Bays.addSmall(bay, 1);
        bay.addMotor(20, 3, 4, 5000);
        int[] due = {20, 3, 4, 5000, 5, 0, 0, 0, Bays.N, Bays.N, 0, Bays.N, 5000};
        for (int what = 0; what < due.length; what++) {
            check.due("motor(1, " + what + ")", bay.motor(1, what), due[what]);
        }
        for (int what = 0; what <= 6; what++) {
            check.due("account(1, " + what + ")", bay.account(1, what), 0);
        }
        check.due("motor(0, 0): the other one stays", bay.motor(0, 0), 10);
    }

    @Sentence(of = "Promise 2", says = {"`rated`: 1 to 100: the rated current", "`ramp`: 2 to 30: the seconds of its ramp",
        "`factor`: 2 to 6", "`limit`: 100 to 60000: the limit of its heat"})
    static void bothEndsOfEachRange(Check check) {
        int[][] inside = {{1, 2, 2, 100}, {100, 30, 6, 60000}, {1, 30, 2, 60000}, {100, 2, 6, 100}};
        for (int[] a : inside) {
            StarterBay bay = new StarterBay();
            check.due("addMotor", bay.addMotor(a[0], a[1], a[2], a[3]), 0);
            for (int what = 0; what < 4; what++) {
                check.due("motor(0, " + what + ")", bay.motor(0, what), a[what]);
            }
        }
        int[][] outside = {{0, 2, 2, 100}, {101, 2, 2, 100}, {1, 1, 2, 100}, {1, 31, 2, 100}, {1, 2, 1, 100}, {1, 2, 7, 100},
            {1, 2, 2, 99}, {1, 2, 2, 60001}, {Integer.MIN_VALUE, 2, 2, 100}, {1, Integer.MAX_VALUE, 2, 100}, {1, 2, -1, 100},
            {1, 2, 2, Integer.MIN_VALUE}};
        StarterBay bay = new StarterBay();
        for (int[] a : outside) {
            check.due("addMotor", bay.addMotor(a[0], a[1], a[2], a[3]), Bays.B);
        }
        check.due("count(0)", bay.count(0), 0);
    }

    @Sentence(of = "Promise 2", says = RETURNS_NUMBER)
    static void returnsItsNumber(Check check) {
        StarterBay bay = new StarterBay();
        for (int number = 0; number < 8; number++) {
            check.due("addMotor", bay.addMotor(5, 5, 5, 500), number);
        }
        check.due("addMotor with a wrong rated one too many", bay.addMotor(0, 5, 5, 500), Bays.B);
        check.due("count(8)", bay.count(8), 0);
        check.due("addMotor one too many", bay.addMotor(5, 5, 5, 500), Bays.R);
        check.due("count(8)", bay.count(8), 5);
        bay.undo();
        check.due("addMotor when one is undone", bay.addMotor(5, 5, 5, 500), 7);
    }

    @Sentence(of = "Promise 2", says = RETURNS_NUMBER)
    static void aNumberThatWasUndoneIsNew(Check check) {
        StarterBay bay = new StarterBay();
        bay.keep();
        bay.addMotor(10, 2, 2, 1000);
        bay.setNeed(0, 9);
        bay.request(0);
        bay.pass(2);
        bay.losePhases(0, 5);
        bay.pass(3);
        bay.restore();
        check.due("count(0)", bay.count(0), 0);
        check.due("addMotor(20, 3, 3, 60000)", bay.addMotor(20, 3, 3, 60000), 0);
        StarterBay fresh = new StarterBay();
        fresh.addMotor(20, 3, 3, 60000);
        String[] apart = {"count(16)"};
        String difference = Everything.difference(Everything.without(Everything.of(bay), apart),
                Everything.without(Everything.of(fresh), apart));
        check.yes("it is like one in a new bay, but: " + difference, difference.isEmpty());
        bay.request(0);
        bay.pass(3);
        bay.losePhases(0, 1);
        bay.pass(2);
        check.due("motor(0, 5): the loss of the other one does not count", bay.motor(0, 5), 3);
    }

    @Sentence(of = "Promise 3", says = {"Sets the need of a motor.", "This is an act."})
    static void setsTheNeed(Check check) {
        Twins.undone(check, "setNeed(1, 9)", bay -> Bays.addSmall(bay, 2), bay -> bay.setNeed(1, 9), 5);
        StarterBay bay = new StarterBay();
        Bays.addSmall(bay, 3);
        bay.setNeed(1, 9);
        int[] needs = {5, 9, 5};
        for (int number = 0; number < 3; number++) {
            check.due("motor(" + number + ", 4)", bay.motor(number, 4), needs[number]);
        }
    }

    @Sentence(of = "Promise 3", says = {"`motor`: the motor", "`need`: 0 to 9",
        "Returns the previous need; UNKNOWN; BAD_VALUE; NONE if it is so already."})
    static void returnsThePreviousNeed(Check check) {
        StarterBay bay = new StarterBay();
        check.due("setNeed(0, 10)", bay.setNeed(0, 10), Bays.U);
        Bays.addSmall(bay, 1);
        check.due("setNeed(-1, 0)", bay.setNeed(-1, 0), Bays.U);
        check.due("setNeed(1, 0)", bay.setNeed(1, 0), Bays.U);
        check.due("setNeed(0, 5)", bay.setNeed(0, 5), Bays.N);
        int previous = 5;
        int[] needs = {0, 9, 1, 8, 0};
        for (int need : needs) {
            check.due("setNeed(0, -1)", bay.setNeed(0, -1), Bays.B);
            check.due("setNeed(0, 10)", bay.setNeed(0, 10), Bays.B);
            check.due("setNeed(0, " + need + ")", bay.setNeed(0, need), previous);
            check.due("setNeed(0, " + need + ") again", bay.setNeed(0, need), Bays.N);
            previous = need;
        }
    }

    @Sentence(of = "Promise 4", says = {"Sets the limit of the bay.", "This is an act."})
    static void setsTheLimit(Check check) {
        Twins.undone(check, "setLimit(10)", bay -> Bays.inMode(bay, 2), bay -> bay.setLimit(10), 500);
        StarterBay bay = new StarterBay();
        bay.setLimit(1234);
        check.due("count(6)", bay.count(6), 1234);
        // The limit binds the starts that come, and not what is starting already.
        StarterBay lower = new StarterBay();
        Bays.inMode(lower, 2);
        lower.setLimit(10);
        lower.pass(4);
        check.due("motor(0, 5)", lower.motor(0, 5), 3);
    }

    @Sentence(of = "Promise 4", says = {"`limit`: 10 to 2000",
        "Returns the previous limit; BAD_VALUE; NONE if it is so already."})
    static void returnsThePreviousLimit(Check check) {
        StarterBay bay = new StarterBay();
        check.due("setLimit(500)", bay.setLimit(500), Bays.N);
        int previous = 500;
        int[] limits = {10, 2000, 11, 1999};
        for (int limit : limits) {
            check.due("setLimit(9)", bay.setLimit(9), Bays.B);
            check.due("setLimit(2001)", bay.setLimit(2001), Bays.B);
            check.due("setLimit(-500)", bay.setLimit(-500), Bays.B);
            check.due("setLimit(" + limit + ")", bay.setLimit(limit), previous);
            check.due("setLimit(" + limit + ") again", bay.setLimit(limit), Bays.N);
            check.due("count(6)", bay.count(6), limit);
            previous = limit;
        }
        check.due("count(16)", bay.count(16), 4);
    }

    @Sentence(of = "Promise 5", says = {"Switches the fan.", "This is an act."})
    static void switchesTheFan(Check check) {
        Twins.undone(check, "setFan(true)", bay -> Bays.inMode(bay, 3), bay -> bay.setFan(true), 1);
        Twins.undone(check, "setFan(false)", bay -> {
            Bays.inMode(bay, 1);
            bay.setFan(true);
        }, bay -> bay.setFan(false), 0);
    }

    @Sentence(of = "Promise 5", says = {"`on`: whether it is on then",
        "Returns 1 if it is on then, otherwise 0; NONE if it is so already."})
    static void returnsWhetherTheFanIsOn(Check check) {
        StarterBay bay = new StarterBay();
        check.due("setFan(false)", bay.setFan(false), Bays.N);
        for (int round = 0; round < 3; round++) {
            check.due("setFan(true)", bay.setFan(true), 1);
            check.due("setFan(true) again", bay.setFan(true), Bays.N);
            check.due("count(7)", bay.count(7), 1);
            check.due("setFan(false)", bay.setFan(false), 0);
            check.due("setFan(false) again", bay.setFan(false), Bays.N);
            check.due("count(7)", bay.count(7), 0);
        }
    }
}
