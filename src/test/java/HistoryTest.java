/** Promises 14 to 16. */
public final class HistoryTest {
    public static void main(String[] args) {
        Check check = new Check();
        undo(check);
        whatUndoLeaves(check);
        whatIsRecorded(check);
        keep(check);
        restore(check);
        check.end();
    }

    private static void undo(Check check) {
        check.part("promise 14");
        StarterBay bay = new StarterBay();
        check.due("undo()", bay.undo(), Bays.N);
        for (int limit = 11; limit <= 16; limit++) {
            bay.setLimit(limit);
        }
        check.due("count(16)", bay.count(16), 4);
        for (int left = 3; left >= 0; left--) {
            check.due("undo()", bay.undo(), left);
            check.due("count(6)", bay.count(6), 12 + left);
            check.due("count(16)", bay.count(16), left);
        }
        check.due("undo()", bay.undo(), Bays.N);
        check.due("count(6)", bay.count(6), 12);
        bay.setLimit(20);
        check.due("count(16)", bay.count(16), 1);
        check.due("undo()", bay.undo(), 0);
        check.due("count(6)", bay.count(6), 12);
    }

    private static void whatUndoLeaves(Check check) {
        check.part("promise 14, what is no state");
        StarterBay bay = Bays.running(1000);
        check.due("undo()", bay.undo(), 2);
        check.due("motor(0, 5)", bay.motor(0, 5), 1);
        check.due("motor(0, 6)", bay.motor(0, 6), 0);
        check.due("count(15)", bay.count(15), 0);
        check.due("event(0, 0)", bay.event(0, 0), Bays.N);
        check.due("count(5)", bay.count(5), 0);
        check.due("account(0, 2)", bay.account(0, 2), 0);
        Bays.typeAll(bay, "0 fa");
        bay.request(0);
        check.due("count(8)", bay.count(8), 1);
        check.due("undo()", bay.undo(), 1);
        check.due("motor(0, 5)", bay.motor(0, 5), 0);
        check.due("count(17): the text stays", bay.count(17), 4);
        check.due("count(8): the reason stays", bay.count(8), 1);
        check.due("keep()", bay.keep(), 0);
        check.due("undo()", bay.undo(), 0);
        check.due("count(0)", bay.count(0), 0);
        check.due("undo()", bay.undo(), Bays.N);
        check.due("restore(): the snapshot stays", bay.restore(), 0);
        check.due("count(0)", bay.count(0), 1);
    }

    private static void whatIsRecorded(Check check) {
        check.part("history");
        StarterBay bay = new StarterBay();
        bay.setFan(false);
        bay.setLimit(500);
        bay.setLimit(1);
        bay.pass(0);
        bay.readTimetable();
        bay.addMotor(0, 0, 0, 0);
        bay.request(0);
        bay.restore();
        bay.keep();
        bay.type('0');
        bay.clearText();
        bay.undo();
        check.due("count(16): nothing was an act", bay.count(16), 0);
        bay.addMotor(1, 2, 2, 100);
        bay.setNeed(0, 5);
        bay.stop(0);
        bay.reset(0);
        bay.losePhases(0, 0);
        check.due("count(16)", bay.count(16), 1);
        bay.request(0);
        check.due("count(16) after request(0)", bay.count(16), 2);
        bay.losePhases(0, 1);
        check.due("count(16) after losePhases(0, 1)", bay.count(16), 3);
        bay.restore();
        check.due("count(16) after restore()", bay.count(16), 4);
        bay.undo();
        bay.undo();
        check.due("motor(0, 7)", bay.motor(0, 7), 0);
        check.due("motor(0, 5)", bay.motor(0, 5), 1);
        bay.stop(0);
        check.due("count(16) after stop(0)", bay.count(16), 3);
        Bays.read(bay, "0 fan 1");
        check.due("count(16) after readTimetable()", bay.count(16), 4);
    }

    private static void keep(Check check) {
        check.part("promise 15");
        StarterBay bay = new StarterBay();
        check.due("keep()", bay.keep(), 0);
        bay.pass(7);
        bay.setLimit(77);
        check.due("keep()", bay.keep(), 7);
        check.due("count(16)", bay.count(16), 2);
        bay.pass(3);
        bay.setLimit(88);
        check.due("restore(): the later one took its place", bay.restore(), 7);
        check.due("count(6)", bay.count(6), 77);
    }

    private static void restore(Check check) {
        check.part("promise 16");
        StarterBay bay = new StarterBay();
        check.due("restore()", bay.restore(), Bays.N);
        bay.addMotor(10, 2, 2, 1000);
        bay.request(0);
        Bays.read(bay, "3 stop 0");
        bay.pass(2);
        bay.losePhases(0, 1);
        bay.pass(1);
        bay.keep();
        bay.clearText();
        Bays.typeAll(bay, "xyz");
        bay.losePhases(0, 0);
        bay.setFan(true);
        bay.addMotor(20, 2, 2, 1000);
        bay.pass(9);
        check.due("restore()", bay.restore(), 3);
        check.due("count(5)", bay.count(5), 3);
        check.due("count(0)", bay.count(0), 1);
        check.due("count(7)", bay.count(7), 0);
        check.due("count(9)", bay.count(9), 1);
        check.due("item(0, 0)", bay.item(0, 0), 0);
        check.due("motor(0, 5)", bay.motor(0, 5), 3);
        check.due("motor(0, 7)", bay.motor(0, 7), 1);
        check.due("count(17): the text stays", bay.count(17), 3);
        check.due("undo()", bay.undo(), 3);
        check.due("count(5)", bay.count(5), 12);
        check.due("count(0)", bay.count(0), 2);
        check.due("restore()", bay.restore(), 3);
        check.due("restore() again", bay.restore(), 3);
        lossSecondsAreKept(check);
        anotherMotor(check);
        events(check);
        waitingAndRamp(check);
        reasonOfTrip(check);
    }

    // The motor 0 of the snapshot is another one than the motor 0 that was added since.
    private static void anotherMotor(Check check) {
        StarterBay bay = new StarterBay();
        bay.addMotor(10, 3, 2, 1000);
        bay.keep();
        bay.undo();
        bay.addMotor(20, 5, 4, 2000);
        bay.setNeed(0, 1);
        bay.restore();
        int[] due = {10, 3, 2, 1000, 5};
        for (int what = 0; what < due.length; what++) {
            check.due("motor(0, " + what + ")", bay.motor(0, what), due[what]);
        }
        check.due("startHeat(0)", bay.startHeat(0), 63);
        bay.undo();
        check.due("motor(0, 0)", bay.motor(0, 0), 20);
        check.due("motor(0, 4)", bay.motor(0, 4), 1);
    }

    private static void events(Check check) {
        StarterBay bay = Bays.tripped();
        bay.addMotor(10, 2, 2, 1000);
        bay.keep();
        for (int round = 0; round < 10; round++) {
            bay.pass(1);
            bay.request(1);
            bay.stop(1);
        }
        check.due("event(9, 2)", bay.event(9, 2), 3);
        bay.restore();
        int[] due = {1, 0, 5};
        for (int what = 0; what < 3; what++) {
            check.due("event(0, " + what + ")", bay.event(0, what), due[what]);
        }
        check.due("event(2, 0)", bay.event(2, 0), Bays.N);
    }

    private static void waitingAndRamp(Check check) {
        StarterBay bay = new StarterBay();
        bay.addMotor(10, 9, 2, 1000);
        bay.addMotor(10, 9, 2, 1000);
        bay.losePhases(1, 1);
        bay.request(0);
        bay.pass(2);
        bay.request(1);
        bay.pass(3);
        bay.keep();
        bay.stop(0);
        bay.stop(1);
        bay.request(0);
        bay.request(1);
        bay.pass(1);
        check.due("motor(0, 8)", bay.motor(0, 8), 1);
        check.due("motor(1, 9)", bay.motor(1, 9), 1);
        bay.restore();
        check.due("motor(0, 8)", bay.motor(0, 8), 5);
        check.due("motor(1, 9)", bay.motor(1, 9), 3);
    }

    private static void reasonOfTrip(Check check) {
        StarterBay bay = new StarterBay();
        bay.addMotor(10, 2, 2, 104);
        bay.request(0);
        bay.pass(1);
        bay.losePhases(0, 1);
        bay.keep();
        bay.losePhases(0, 0);
        bay.reset(0);
        bay.request(0);
        bay.pass(20);
        check.due("motor(0, 11)", bay.motor(0, 11), 2);
        bay.restore();
        check.due("motor(0, 11)", bay.motor(0, 11), 4);
    }

    // The seconds of a loss that have been counted belong to the state.
    private static void lossSecondsAreKept(Check check) {
        StarterBay bay = Bays.running(60000);
        bay.losePhases(0, 1);
        bay.pass(2);
        bay.keep();
        bay.losePhases(0, 0);
        bay.pass(1);
        bay.restore();
        bay.pass(1);
        check.due("motor(0, 5)", bay.motor(0, 5), 4);
    }
}
