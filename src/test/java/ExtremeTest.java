import java.lang.reflect.Field;

/** No call may throw or change anything for arguments that are far out of range, in any state. */
public final class ExtremeTest {
    private static final int[] FAR = {Integer.MIN_VALUE, Integer.MIN_VALUE + 1, -1000, -1, 18, 31, 80, 70000,
        Integer.MAX_VALUE - 1, Integer.MAX_VALUE};

    public static void main(String[] args) {
        Check.all(ExtremeTest.class);
    }

    static void farArguments(Check check) {
        all(check, new StarterBay());
        all(check, Bays.running(1000));
        all(check, Bays.tripped());
        StarterBay full = new StarterBay();
        for (int number = 0; number < 8; number++) {
            full.addMotor(100, 30, 6, 60000);
            full.request(number);
        }
        Bays.read(full, "0 start 7;9999 lose 7 7");
        all(check, full);
    }

    // Rule 7 of LANGUAGE.md asks for every state: no run of a test is long enough to get there by calls.
    static void moreEventsThanANumberHolds(Check check) throws ReflectiveOperationException {
        StarterBay bay = new StarterBay();
        Bays.addSmall(bay, 1);
        Object events = inside(bay, "now", "events");
        Field total = field(events, "total");
        total.setInt(events, Integer.MAX_VALUE - 1);
        for (int round = 0; round < 20; round++) {
            check.due("request(0)", bay.request(0), 0);
            check.due("stop(0)", bay.stop(0), 1);
            check.yes("event(0, 2) is told, or there is none", bay.event(0, 2) == 3 || bay.event(0, 2) == Bays.N);
        }
    }

    private static Object inside(Object from, String... names) throws ReflectiveOperationException {
        Object found = from;
        for (String name : names) {
            found = field(found, name).get(found);
        }
        return found;
    }

    private static Field field(Object from, String name) throws ReflectiveOperationException {
        Field found = from.getClass().getDeclaredField(name);
        found.setAccessible(true);
        return found;
    }

    private static void all(Check check, StarterBay bay) {
        int states = bay.count(16);
        for (int far : FAR) {
            check.due("setNeed(far, 1)", bay.setNeed(far, 1), Bays.U);
            check.due("request(far)", bay.request(far), Bays.U);
            check.due("stop(far)", bay.stop(far), Bays.U);
            check.due("losePhases(far, far)", bay.losePhases(far, far), Bays.U);
            check.due("reset(far)", bay.reset(far), Bays.U);
            check.due("motor(far, far)", bay.motor(far, far), Bays.U);
            check.due("account(far, far)", bay.account(far, far), Bays.U);
            check.due("whyNot(far)", bay.whyNot(far), Bays.U);
            check.due("startHeat(far)", bay.startHeat(far), Bays.U);
            check.due("coolTime(far)", bay.coolTime(far), Bays.U);
            check.due("runTime(far)", bay.runTime(far), Bays.U);
            check.due("longestRamp(far)", bay.longestRamp(far), Bays.U);
            check.due("queue(far)", bay.queue(far), far < 0 ? Bays.B : Bays.N);
            check.due("event(far, 0)", bay.event(far, 0), far < 0 ? Bays.B : Bays.N);
            check.due("event(0, far)", bay.event(0, far), Bays.B);
            check.due("item(far, 0)", bay.item(far, 0), far < 0 ? Bays.B : Bays.N);
            check.due("item(0, far)", bay.item(0, far), Bays.B);
            if (far < 0 || far > 2000) {
                check.due("addMotor(far, far, far, far)", bay.addMotor(far, far, far, far), Bays.B);
                check.due("setLimit(far)", bay.setLimit(far), Bays.B);
                check.due("pass(far)", bay.pass(far), Bays.B);
                check.due("count(far)", bay.count(far), Bays.B);
            }
            if (bay.count(0) > 0) {
                check.due("setNeed(0, far)", bay.setNeed(0, far), Bays.B);
                check.due("losePhases(0, far)", bay.losePhases(0, far), Bays.B);
                check.due("motor(0, far)", bay.motor(0, far), Bays.B);
                check.due("account(0, far)", bay.account(0, far), Bays.B);
            }
        }
        check.due("count(16)", bay.count(16), states);
    }
}
