/** The sentences under ERRORS. */
public final class ErrorsTermTest {
    private static final String ORDER = "Where several errors can apply, the order of the @return line is the order of the "
            + "checks.";
    private static final String CHANGES_NOTHING = "A call that returns an error or NONE changes nothing (but for the reason, if "
            + "it is REFUSED).";
    private static final int[] FAR = {Integer.MIN_VALUE, -1000, -1, 2, 8, 1000, Integer.MAX_VALUE};
    private static final int[] FAR_VALUES = {Integer.MIN_VALUE, -1, 70000, Integer.MAX_VALUE};

    public static void main(String[] args) {
        Check.all(ErrorsTermTest.class);
    }

    private static StarterBay two() {
        StarterBay bay = new StarterBay();
        Bays.addSmall(bay, 2);
        return bay;
    }

    @Sentence(of = "ERRORS", says = {"Errors are reported by the constants below.",
        "The constants: `UNKNOWN = -1`: There is no such motor."})
    static void unknown(Check check) {
        check.due("UNKNOWN", StarterBay.UNKNOWN, -1);
        StarterBay bay = two();
        for (int motor : FAR) {
            check.due("setNeed", bay.setNeed(motor, 1), -1);
            check.due("request", bay.request(motor), -1);
            check.due("stop", bay.stop(motor), -1);
            check.due("losePhases", bay.losePhases(motor, 1), -1);
            check.due("reset", bay.reset(motor), -1);
            check.due("motor", bay.motor(motor, 0), -1);
            check.due("account", bay.account(motor, 0), -1);
            check.due("whyNot", bay.whyNot(motor), -1);
            check.due("startHeat", bay.startHeat(motor), -1);
            check.due("coolTime", bay.coolTime(motor), -1);
            check.due("runTime", bay.runTime(motor), -1);
            check.due("longestRamp", bay.longestRamp(motor), -1);
        }
        check.due("setNeed(1, 1): the last one is there", bay.setNeed(1, 1), 5);
    }

    @Sentence(of = "ERRORS", says = {"Errors are reported by the constants below.",
        "`BAD_VALUE = -2`: Another argument is out of range."})
    static void badValue(Check check) {
        check.due("BAD_VALUE", StarterBay.BAD_VALUE, -2);
        StarterBay bay = two();
        for (int value : FAR_VALUES) {
            check.due("addMotor, rated", bay.addMotor(value, 2, 2, 100), -2);
            check.due("addMotor, ramp", bay.addMotor(1, value, 2, 100), -2);
            check.due("addMotor, factor", bay.addMotor(1, 2, value, 100), -2);
            check.due("addMotor, limit", bay.addMotor(1, 2, 2, value), -2);
            check.due("setNeed", bay.setNeed(0, value), -2);
            check.due("setLimit", bay.setLimit(value), -2);
            check.due("losePhases", bay.losePhases(0, value), -2);
            check.due("pass", bay.pass(value), -2);
            check.due("motor", bay.motor(0, value), -2);
            check.due("account", bay.account(0, value), -2);
            check.due("event", bay.event(0, value), -2);
            check.due("item", bay.item(0, value), -2);
            check.due("count", bay.count(value), -2);
        }
        check.due("queue(-1)", bay.queue(-1), -2);
        check.due("event(-1, 0)", bay.event(-1, 0), -2);
        check.due("item(-1, 0)", bay.item(-1, 0), -2);
    }

    @Sentence(of = "ERRORS", says = {"Errors are reported by the constants below.",
        "`REFUSED = -3`: The call is refused, for a reason."})
    static void refused(Check check) {
        check.due("REFUSED", StarterBay.REFUSED, -3);
        StarterBay bay = two();
        check.due("stop(0)", bay.stop(0), -3);
        check.due("reset(0)", bay.reset(0), -3);
        bay.request(0);
        check.due("request(0)", bay.request(0), -3);
        Bays.addSmall(bay, 6);
        check.due("addMotor", bay.addMotor(1, 2, 2, 100), -3);
        for (int length = 1; length <= 80; length++) {
            bay.type('0');
        }
        check.due("type('0')", bay.type('0'), -3);
    }

    @Sentence(of = "ERRORS", says = {"Errors are reported by the constants below.",
        "`NONE = -4`: There is no such thing; not an error."})
    static void none(Check check) {
        check.due("NONE", StarterBay.NONE, -4);
        StarterBay bay = two();
        check.due("setNeed(0, 5)", bay.setNeed(0, 5), -4);
        check.due("setLimit(500)", bay.setLimit(500), -4);
        check.due("setFan(false)", bay.setFan(false), -4);
        check.due("losePhases(0, 0)", bay.losePhases(0, 0), -4);
        check.due("restore()", bay.restore(), -4);
        check.due("motor(0, 8)", bay.motor(0, 8), -4);
        check.due("motor(0, 9)", bay.motor(0, 9), -4);
        check.due("motor(0, 11)", bay.motor(0, 11), -4);
        check.due("queue(0)", bay.queue(0), -4);
        check.due("whyNot(0)", bay.whyNot(0), -4);
        check.due("event(0, 0)", bay.event(0, 0), -4);
        check.due("item(0, 0)", bay.item(0, 0), -4);
        check.due("runTime(0)", bay.runTime(0), -4);
        bay.undo();
        bay.undo();
        check.due("undo()", bay.undo(), -4);
    }

    @Sentence(of = "ERRORS", says = ORDER)
    static void theOrderOfTheChecks(Check check) {
        StarterBay bay = new StarterBay();
        Bays.addSmall(bay, 8);
        check.due("addMotor: BAD_VALUE is ahead of REFUSED", bay.addMotor(0, 2, 2, 100), Bays.B);
        check.due("addMotor", bay.addMotor(1, 2, 2, 60001), Bays.B);
        check.due("count(8)", bay.count(8), 0);
        check.due("setNeed: UNKNOWN is ahead of BAD_VALUE", bay.setNeed(8, 10), Bays.U);
        check.due("losePhases: UNKNOWN is ahead of BAD_VALUE", bay.losePhases(8, 8), Bays.U);
        check.due("motor: UNKNOWN is ahead of BAD_VALUE", bay.motor(8, 13), Bays.U);
        check.due("account: UNKNOWN is ahead of BAD_VALUE", bay.account(-1, -1), Bays.U);
    }

    @Sentence(of = "ERRORS", says = ORDER)
    static void theOrderOfTheReasons(Check check) {
        StarterBay stopped = two();
        stopped.losePhases(0, 1);
        stopped.reset(0);
        check.due("count(8): the mode is ahead of the phases", stopped.count(8), 1);
        StarterBay running = Bays.running(100);
        running.pass(4);
        check.yes("it holds more than half its limit", running.motor(0, 6) > 50);
        running.reset(0);
        check.due("count(8): the mode is ahead of the heat", running.count(8), 1);
        StarterBay hot = Bays.hot();
        hot.losePhases(0, 1);
        hot.reset(0);
        check.due("count(8): the phases are ahead of the heat", hot.count(8), 4);
    }

    @Sentence(of = "ERRORS", says = "NONE is no error; it is returned only if no error applies.")
    static void noneOnlyWithoutAnError(Check check) {
        StarterBay bay = two();
        check.due("setNeed(2, 5)", bay.setNeed(2, 5), Bays.U);
        check.due("losePhases(2, 0)", bay.losePhases(2, 0), Bays.U);
        check.due("whyNot(2)", bay.whyNot(2), Bays.U);
        check.due("motor(2, 8)", bay.motor(2, 8), Bays.U);
        check.due("event(0, 3): there is no event, but what is wrong", bay.event(0, 3), Bays.B);
        check.due("event(99, -1)", bay.event(99, -1), Bays.B);
        check.due("event(-1, 0)", bay.event(-1, 0), Bays.B);
        check.due("item(0, 4)", bay.item(0, 4), Bays.B);
        check.due("item(99, -1)", bay.item(99, -1), Bays.B);
        check.due("item(-1, 0)", bay.item(-1, 0), Bays.B);
        check.due("queue(-1)", bay.queue(-1), Bays.B);
        check.due("coolTime(2)", bay.coolTime(2), Bays.U);
        check.due("runTime(2)", bay.runTime(2), Bays.U);
        check.due("longestRamp(2)", bay.longestRamp(2), Bays.U);
    }

    // A bay in which little may change unseen: all modes, a loss in its second second, items, a text, a snapshot, a history.
    private static void makeFull(StarterBay bay) {
        Bays.inMode(bay, 4);
        Bays.addSmall(bay, 2);
        bay.addMotor(10, 30, 2, 1000);
        bay.addMotor(10, 2, 2, 1000);
        bay.request(1);
        bay.pass(2);
        bay.keep();
        bay.request(3);
        bay.pass(1);
        bay.losePhases(2, 1);
        bay.request(2);
        bay.losePhases(1, 2);
        Bays.read(bay, "5 start 4;6 fan 1;9 stop 3");
        bay.setNeed(2, 7);
        bay.pass(2);
        bay.setLimit(333);
        Bays.typeAll(bay, ";9 stop 2");
    }

    @Sentence(of = "ERRORS", says = CHANGES_NOTHING)
    static void errorsChangeNothing(Check check) {
        Twins.Calls full = ErrorsTermTest::makeFull;
        for (int far = -1; far <= 5; far += 6) {
            int motor = far;
            Twins.stays(check, "setNeed(far, 1)", full, bay -> bay.setNeed(motor, 1), Bays.U);
            Twins.stays(check, "request(far)", full, bay -> bay.request(motor), Bays.U);
            Twins.stays(check, "stop(far)", full, bay -> bay.stop(motor), Bays.U);
            Twins.stays(check, "losePhases(far, 1)", full, bay -> bay.losePhases(motor, 1), Bays.U);
            Twins.stays(check, "reset(far)", full, bay -> bay.reset(motor), Bays.U);
        }
        Twins.stays(check, "addMotor", full, bay -> bay.addMotor(10, 2, 2, 99), Bays.B);
        Twins.stays(check, "setNeed(2, 10)", full, bay -> bay.setNeed(2, 10), Bays.B);
        Twins.stays(check, "setLimit(9)", full, bay -> bay.setLimit(9), Bays.B);
        Twins.stays(check, "losePhases(3, 8)", full, bay -> bay.losePhases(3, 8), Bays.B);
        Twins.stays(check, "losePhases(1, -1)", full, bay -> bay.losePhases(1, -1), Bays.B);
        Twins.stays(check, "pass(0)", full, bay -> bay.pass(0), Bays.B);
        Twins.stays(check, "pass(61)", full, bay -> bay.pass(61), Bays.B);
    }

    @Sentence(of = "ERRORS", says = CHANGES_NOTHING)
    static void noneChangesNothing(Check check) {
        Twins.Calls full = ErrorsTermTest::makeFull;
        Twins.stays(check, "setNeed(2, 7)", full, bay -> bay.setNeed(2, 7), Bays.N);
        Twins.stays(check, "setLimit(333)", full, bay -> bay.setLimit(333), Bays.N);
        Twins.stays(check, "setFan(false)", full, bay -> bay.setFan(false), Bays.N);
        Twins.stays(check, "losePhases(1, 2)", full, bay -> bay.losePhases(1, 2), Bays.N);
        Twins.stays(check, "losePhases(3, 0)", full, bay -> bay.losePhases(3, 0), Bays.N);
        Twins.stays(check, "queue(8)", full, bay -> bay.queue(8), Bays.N);
        Twins.stays(check, "whyNot(3)", full, bay -> bay.whyNot(3), Bays.N);
        Twins.stays(check, "event(10, 0)", full, bay -> bay.event(10, 0), Bays.N);
        Twins.stays(check, "item(3, 0)", full, bay -> bay.item(3, 0), Bays.N);
        Twins.stays(check, "restore()", bay -> Bays.inMode(bay, 2), StarterBay::restore, Bays.N);
        Twins.stays(check, "undo()", bay -> Bays.typeAll(bay, "0 fan 1"), StarterBay::undo, Bays.N);
    }

    @Sentence(of = "ERRORS", says = CHANGES_NOTHING)
    static void refusalsChangeTheReasonAlone(Check check) {
        Twins.Calls full = ErrorsTermTest::makeFull;
        for (int number = 1; number <= 3; number++) {
            int motor = number;
            Twins.refused(check, "request(" + motor + ")", full, bay -> bay.request(motor), 1);
            Twins.refused(check, "reset(" + motor + ")", full, bay -> bay.reset(motor), 1);
        }
        Twins.refused(check, "request(0)", full, bay -> bay.request(0), 1);
        Twins.refused(check, "stop(0)", full, bay -> bay.stop(0), 1);
        Twins.refused(check, "stop(4)", full, bay -> bay.stop(4), 1);
        Twins.refused(check, "addMotor", bay -> {
            makeFull(bay);
            Bays.addSmall(bay, 3);
        }, bay -> bay.addMotor(10, 2, 2, 1000), 5);
    }
}
