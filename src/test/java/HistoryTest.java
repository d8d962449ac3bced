/** Promises 14 to 16. */
public final class HistoryTest {
    private static final String UNDO = "Removes and restores the latest state of the history.";
    private static final String KEEP = "Takes a snapshot of the state, in place of the one that was.";
    private static final String RESTORE = "Restores the state of the snapshot, which stays.";

    public static void main(String[] args) {
        Check.all(HistoryTest.class);
    }

    @Sentence(of = "Promise 14", says = UNDO)
    static void removesAndRestores(Check check) {
        StarterBay bay = Bays.running(1000);
        bay.undo();
        check.due("motor(0, 5)", bay.motor(0, 5), 1);
        check.due("motor(0, 6)", bay.motor(0, 6), 0);
        check.due("count(15)", bay.count(15), 0);
        check.due("event(0, 0)", bay.event(0, 0), Bays.N);
        check.due("count(5)", bay.count(5), 0);
        check.due("account(0, 2)", bay.account(0, 2), 0);
        bay.undo();
        check.due("motor(0, 5)", bay.motor(0, 5), 0);
        bay.undo();
        check.due("count(0)", bay.count(0), 0);
    }

    @Sentence(of = "Promise 14", says = UNDO)
    static void doneAnewItIsTheSame(Check check) {
        StarterBay bay = new StarterBay();
        Bays.inMode(bay, 1);
        bay.pass(30);
        String told = Everything.of(bay);
        bay.undo();
        bay.pass(30);
        check.yes("the same call comes to the same", Everything.of(bay).equals(told));
    }

    @Sentence(of = "Promise 14", says = "Returns the number of states that are left; NONE if the history is empty.")
    static void returnsTheStatesThatAreLeft(Check check) {
        StarterBay bay = new StarterBay();
        check.due("undo() at first", bay.undo(), Bays.N);
        for (int limit = 11; limit <= 16; limit++) {
            bay.setLimit(limit);
        }
        for (int left = 3; left >= 0; left--) {
            check.due("undo()", bay.undo(), left);
            check.due("count(16)", bay.count(16), left);
        }
        check.due("undo()", bay.undo(), Bays.N);
        check.due("undo() again", bay.undo(), Bays.N);
        bay.setLimit(20);
        check.due("undo()", bay.undo(), 0);
    }

    @Sentence(of = "Promise 15", says = KEEP)
    static void inPlaceOfTheOneThatWas(Check check) {
        StarterBay bay = new StarterBay();
        bay.keep();
        bay.pass(7);
        bay.setLimit(77);
        bay.keep();
        check.due("count(16): it is no act", bay.count(16), 2);
        bay.pass(3);
        bay.setLimit(88);
        bay.restore();
        check.due("count(5)", bay.count(5), 7);
        check.due("count(6)", bay.count(6), 77);
    }

    @Sentence(of = "Promise 15", says = KEEP)
    static void keepChangesNoState(Check check) {
        StarterBay bay = new StarterBay();
        Bays.inMode(bay, 2);
        String told = Everything.of(bay);
        bay.keep();
        check.yes("all is as it was", Everything.of(bay).equals(told));
        bay.undo();
        check.due("undo(): the history is as it was", bay.undo(), 1);
    }

    @Sentence(of = "Promise 15", says = "Returns the clock.")
    static void keepReturnsTheClock(Check check) {
        StarterBay bay = new StarterBay();
        check.due("keep()", bay.keep(), 0);
        bay.pass(1);
        check.due("keep()", bay.keep(), 1);
        bay.pass(60);
        check.due("keep()", bay.keep(), 61);
        bay.undo();
        check.due("keep()", bay.keep(), 1);
    }

    @Sentence(of = "Promise 16", says = {RESTORE, "This is an act."})
    static void theSnapshotStays(Check check) {
        StarterBay bay = new StarterBay();
        bay.setLimit(101);
        bay.keep();
        for (int round = 0; round < 3; round++) {
            bay.setLimit(200 + round);
            bay.pass(5);
            check.due("restore()", bay.restore(), 0);
            check.due("count(6)", bay.count(6), 101);
            check.due("count(5)", bay.count(5), 0);
        }
        // What is done behind restore() does not reach the snapshot.
        bay.setLimit(300);
        check.due("restore() again", bay.restore(), 0);
        check.due("count(6)", bay.count(6), 101);
        check.due("undo(): it is an act", bay.undo(), 3);
        check.due("count(6)", bay.count(6), 300);
        Twins.undone(check, "restore()", twin -> {
            Bays.addSmall(twin, 1);
            twin.keep();
            twin.request(0);
            twin.pass(20);
        }, StarterBay::restore, 0);
    }

    @Sentence(of = "Promise 16", says = {RESTORE, "This is an act."})
    static void restoringTheSameStateIsAnActToo(Check check) {
        StarterBay bay = new StarterBay();
        bay.keep();
        check.due("restore()", bay.restore(), 0);
        check.due("count(16)", bay.count(16), 1);
        check.due("undo()", bay.undo(), 0);
    }

    @Sentence(of = "Promise 16", says = "Returns the clock then; NONE if there is no snapshot.")
    static void restoreReturnsTheClock(Check check) {
        StarterBay bay = new StarterBay();
        bay.pass(9);
        check.due("restore() without a snapshot", bay.restore(), Bays.N);
        check.due("count(16)", bay.count(16), 1);
        bay.keep();
        bay.pass(3);
        check.due("restore()", bay.restore(), 9);
        check.due("count(5)", bay.count(5), 9);
    }

    // The motor 0 of the snapshot is another one than the motor 0 that was added since.
    @Sentence(of = "Promise 16", says = {RESTORE, "This is an act."})
    static void anotherMotorOfTheSameNumber(Check check) {
        StarterBay bay = new StarterBay();
        bay.addMotor(10, 3, 2, 1000);
        bay.keep();
        bay.undo();
        bay.addMotor(20, 5, 4, 2000);
        bay.addMotor(30, 5, 4, 2000);
        bay.setNeed(0, 1);
        bay.restore();
        check.due("count(0)", bay.count(0), 1);
        int[] due = {10, 3, 2, 1000, 5};
        for (int what = 0; what < due.length; what++) {
            check.due("motor(0, " + what + ")", bay.motor(0, what), due[what]);
        }
        check.due("startHeat(0)", bay.startHeat(0), 63);
        bay.undo();
        check.due("motor(0, 0)", bay.motor(0, 0), 20);
        check.due("motor(0, 4)", bay.motor(0, 4), 1);
        check.due("motor(1, 0)", bay.motor(1, 0), 30);
    }

    @Sentence(of = "Promise 16", says = {RESTORE, "This is an act."})
    static void eventsThatWereDroppedComeBack(Check check) {
        StarterBay bay = Bays.tripped();
        Bays.addSmall(bay, 1);
        bay.keep();
        for (int round = 0; round < 12; round++) {
            bay.pass(1);
            bay.request(1);
            bay.stop(1);
        }
        check.due("event(9, 2)", bay.event(9, 2), 3);
        bay.restore();
        int[] due = {1, 0, 5};
        for (int what = 0; what < 3; what++) {
            check.due("event(0, " + what + ")", bay.event(0, what), due[what]);
        }
        check.due("event(1, 2)", bay.event(1, 2), 1);
        check.due("event(2, 0)", bay.event(2, 0), Bays.N);
        check.due("count(15)", bay.count(15), 2);
    }

    @Sentence(of = "Promise 16", says = {RESTORE, "This is an act."})
    static void whatWasWaitedAndTheRampComeBack(Check check) {
        StarterBay bay = new StarterBay();
        bay.addMotor(10, 9, 2, 1000);
        bay.addMotor(10, 9, 2, 1000);
        bay.losePhases(1, 1);
        bay.request(0);
        bay.pass(2);
        bay.request(1);
        bay.pass(3);
        bay.keep();
        bay.stop(0);
        bay.stop(1);
        bay.request(0);
        bay.request(1);
        bay.pass(1);
        check.due("motor(0, 8)", bay.motor(0, 8), 1);
        check.due("motor(1, 9)", bay.motor(1, 9), 1);
        bay.restore();
        check.due("motor(0, 8)", bay.motor(0, 8), 5);
        check.due("motor(1, 9)", bay.motor(1, 9), 3);
    }

    @Sentence(of = "Promise 16", says = {RESTORE, "This is an act."})
    static void theReasonOfATripComesBack(Check check) {
        StarterBay bay = new StarterBay();
        bay.addMotor(10, 2, 2, 104);
        bay.request(0);
        bay.pass(1);
        bay.losePhases(0, 1);
        bay.keep();
        bay.losePhases(0, 0);
        bay.reset(0);
        bay.request(0);
        bay.pass(20);
        check.due("motor(0, 11)", bay.motor(0, 11), 2);
        bay.restore();
        check.due("motor(0, 11)", bay.motor(0, 11), 4);
    }

    @Sentence(of = "Promise 16", says = {RESTORE, "This is an act."})
    static void theSecondsOfALossComeBack(Check check) {
        StarterBay bay = Bays.running(60000);
        bay.losePhases(0, 1);
        bay.pass(2);
        bay.keep();
        bay.losePhases(0, 0);
        bay.pass(1);
        bay.restore();
        bay.pass(1);
        check.due("motor(0, 5)", bay.motor(0, 5), 4);
    }

    @Sentence(of = "Promise 16", says = {RESTORE, "This is an act."})
    static void itemsThatWereCarriedOutComeBack(Check check) {
        StarterBay bay = new StarterBay();
        Bays.read(bay, "1 fan 1;3 fan 0");
        bay.keep();
        bay.pass(10);
        Bays.read(bay, "7 stop 6");
        check.due("restore()", bay.restore(), 0);
        check.due("count(9)", bay.count(9), 2);
        check.due("item(0, 0)", bay.item(0, 0), 1);
        check.due("item(1, 1)", bay.item(1, 1), 4);
        bay.pass(2);
        check.due("count(7)", bay.count(7), 1);
    }
}
