/** All 512 calls of an object answer what is due, and the numbers stay exact in the longest runs that they allow. */
public final class CallsTest {
    private static final String USED = "An object is used for at most 512 calls after it has been made; what later calls answer "
            + "is free.";
    private static final int CALLS = 512;

    public static void main(String[] args) {
        Check.all(CallsTest.class);
    }

    @Sentence(of = "What it is", says = USED)
    static void theLastCall(Check check) {
        StarterBay bay = new StarterBay();
        for (int call = 1; call < CALLS; call++) {
            bay.pass(60);
        }
        check.due("count(5) as the last call", bay.count(5), 60 * (CALLS - 1));
        StarterBay acts = new StarterBay();
        for (int call = 1; call < CALLS; call++) {
            check.due("setNeed of no motor", acts.setNeed(call, 1), Bays.U);
        }
        check.due("undo() as the last call", acts.undo(), Bays.N);
        StarterBay types = new StarterBay();
        for (int call = 1; call < CALLS; call++) {
            check.due("type", types.type('0'), call <= 80 ? call : Bays.R);
        }
        check.due("readTimetable() as the last call", types.readTimetable(), -100);
    }

    @Sentence(of = "What it is", says = USED)
    static void theMostHeat(Check check) {
        // Eight motors that run with 100 A to the end; each ramp takes in 5000, each second then 1000.
        StarterBay bay = new StarterBay();
        bay.setLimit(2000);
        for (int number = 0; number < 8; number++) {
            bay.addMotor(100, 2, 2, 60000);
            bay.request(number);
        }
        int calls = CALLS - 17 - 4;
        for (int call = 0; call < calls; call++) {
            bay.pass(60);
        }
        // The motor k starts in the second k and runs from the second k + 2 on: 28 and 16 seconds less in all.
        int ran = 8 * (60 * calls - 2) - 28;
        check.due("count(11)", bay.count(11), 8 * 5000 + 1000 * ran);
        check.due("count(13): each holds 24000", bay.count(13), 8 * 24000);
        check.due("count(12)", bay.count(12), 8 * 5000 + 1000 * ran - 8 * 24000);
        check.due("account(7, 4)", bay.account(7, 4), 60 * calls - 7);
    }

    @Sentence(of = "What it is", says = USED)
    static void theMostEvents(Check check) {
        // Each reading with 10 items brings 10 events at the most: 5 starts and 5 stops take 20 characters and more.
        StarterBay bay = new StarterBay();
        Bays.addSmall(bay, 1);
        Bays.typeAll(bay, "0 start 0;1 stop 0;1 start 0;2 stop 0;2 start 0;3 stop 0;3 start 0;4 stop 0");
        int rounds = 200;
        for (int round = 0; round < rounds; round++) {
            check.due("readTimetable()", bay.readTimetable(), 8);
            check.due("pass(5)", bay.pass(5), 4);
        }
        check.due("count(15): 4 starts and 4 stops each time", bay.count(15), rounds * 8);
        check.due("count(10)", bay.count(10), 0);
        for (int event = 0; event < 8; event++) {
            check.due("event(" + event + ", 2)", bay.event(event, 2), event % 2 == 0 ? 3 : 1);
            check.due("event(" + event + ", 0)", bay.event(event, 0), rounds * 5 - 1 - (event + 1) / 2);
        }
        check.due("account(0, 2)", bay.account(0, 2), rounds * 4);
    }
}
