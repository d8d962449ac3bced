/** The sentences under HISTORY. */
public final class HistoryTermTest {
    private static final String KEPT = "A history of at most 4 states is kept; when one more is recorded, the oldest one is "
            + "dropped; undo() removes and restores the latest one.";
    private static final String ACTS = "Each call of a method that is described as an act, and returns no error (a refusal is one) "
            + "and not NONE, records the state that was before it.";
    private static final String STATE = "A state is everything but the text, the history, the snapshot and the reason.";

    public static void main(String[] args) {
        Check.all(HistoryTermTest.class);
    }

    @Sentence(of = "HISTORY", says = KEPT)
    static void atMostFour(Check check) {
        for (int acts = 0; acts <= 9; acts++) {
            StarterBay bay = new StarterBay();
            for (int act = 1; act <= acts; act++) {
                bay.setLimit(100 + act);
            }
            int states = Math.min(acts, 4);
            check.due("count(16) after " + acts, bay.count(16), states);
            for (int back = 1; back <= states; back++) {
                check.due("undo()", bay.undo(), states - back);
                check.due("count(16)", bay.count(16), states - back);
                check.due("count(6)", bay.count(6), acts == back ? 500 : 100 + acts - back);
            }
            int limit = bay.count(6);
            check.due("undo() of an empty history", bay.undo(), Bays.N);
            check.due("count(6)", bay.count(6), limit);
        }
    }

    @Sentence(of = "HISTORY", says = KEPT)
    static void recordedAnewBehindUndo(Check check) {
        StarterBay bay = new StarterBay();
        for (int limit = 101; limit <= 106; limit++) {
            bay.setLimit(limit);
        }
        bay.undo();
        bay.undo();
        check.due("count(6)", bay.count(6), 104);
        check.due("setLimit(200)", bay.setLimit(200), 104);
        bay.setLimit(201);
        bay.setLimit(202);
        check.due("count(16)", bay.count(16), 4);
        int[] due = {201, 200, 104, 103};
        for (int limit : due) {
            bay.undo();
            check.due("count(6)", bay.count(6), limit);
        }
        check.due("undo()", bay.undo(), Bays.N);
    }

    @Sentence(of = "HISTORY", says = ACTS)
    static void eachActIsRecorded(Check check) {
        Twins.Calls stopped = bay -> Bays.inMode(bay, 0);
        Twins.undone(check, "addMotor", stopped, bay -> bay.addMotor(20, 3, 4, 5000), 1);
        Twins.undone(check, "setNeed", stopped, bay -> bay.setNeed(0, 7), 5);
        Twins.undone(check, "setLimit", stopped, bay -> bay.setLimit(77), 500);
        Twins.undone(check, "setFan", stopped, bay -> bay.setFan(true), 1);
        Twins.undone(check, "request", stopped, bay -> bay.request(0), 0);
        for (int mode = 1; mode <= 3; mode++) {
            int brought = mode;
            Twins.undone(check, "stop", bay -> Bays.inMode(bay, brought), bay -> bay.stop(0), mode);
        }
        for (int mode = 0; mode <= 4; mode++) {
            int brought = mode;
            Twins.undone(check, "losePhases", bay -> Bays.inMode(bay, brought), bay -> bay.losePhases(0, 5), 0);
            Twins.undone(check, "pass", bay -> Bays.inMode(bay, brought), bay -> bay.pass(7), mode == 1 ? 1 : 0);
        }
        Twins.undone(check, "reset", bay -> Bays.inMode(bay, 4), bay -> bay.reset(0), 1);
        Twins.undone(check, "readTimetable", bay -> {
            Bays.inMode(bay, 1);
            Bays.read(bay, "3 fan 1;4 lose 0 7");
            Bays.typeAll(bay, ";5 stop 0");
        }, StarterBay::readTimetable, 3);
        Twins.undone(check, "restore", bay -> {
            bay.addMotor(20, 3, 3, 3000);
            bay.keep();
            bay.undo();
            Bays.inMode(bay, 2);
        }, StarterBay::restore, 0);
    }

    @Sentence(of = "HISTORY", says = ACTS)
    static void errorsAndNoneAreNotRecorded(Check check) {
        Twins.Call[] calls = {bay -> bay.addMotor(0, 2, 2, 100), bay -> bay.setNeed(9, 1), bay -> bay.setNeed(0, 10),
            bay -> bay.setNeed(0, 5), bay -> bay.setLimit(9), bay -> bay.setLimit(500), bay -> bay.setFan(false),
            bay -> bay.request(9), bay -> bay.request(0), bay -> bay.stop(9), bay -> bay.stop(1), bay -> bay.losePhases(9, 1),
            bay -> bay.losePhases(0, 8), bay -> bay.losePhases(0, 0), bay -> bay.reset(9), bay -> bay.reset(0),
            bay -> bay.pass(0), bay -> bay.pass(61), StarterBay::readTimetable, StarterBay::restore};
        for (int place = 0; place < calls.length; place++) {
            StarterBay bay = new StarterBay();
            Bays.inMode(bay, 1);
            Bays.addSmall(bay, 1);
            check.yes("the call " + place + " answers an error or NONE", calls[place].on(bay) < 0);
            check.due("count(16) behind the call " + place, bay.count(16), 3);
        }
        StarterBay full = new StarterBay();
        Bays.addSmall(full, 8);
        full.undo();
        full.addMotor(10, 2, 2, 1000);
        full.undo();
        full.undo();
        full.addMotor(11, 2, 2, 1000);
        full.addMotor(11, 2, 2, 1000);
        int states = full.count(16);
        check.due("addMotor", full.addMotor(10, 2, 2, 1000), Bays.R);
        check.due("count(16)", full.count(16), states);
        full.undo();
        check.due("count(0): the latest state is the one ahead of the eighth motor", full.count(0), 7);
    }

    @Sentence(of = "HISTORY", says = ACTS)
    static void whatIsNoActIsNotRecorded(Check check) {
        StarterBay bay = new StarterBay();
        Bays.inMode(bay, 2);
        check.due("count(16)", bay.count(16), 3);
        bay.type('0');
        bay.clearText();
        bay.keep();
        check.due("count(16)", bay.count(16), 3);
        Everything.of(bay);
        check.due("count(16) when everything was told", bay.count(16), 3);
        bay.undo();
        check.due("count(16): undo() removes one, and records none", bay.count(16), 2);
        check.due("undo(): there is no way back to what was undone", bay.undo(), 1);
        check.due("motor(0, 5)", bay.motor(0, 5), 0);
    }

    @Sentence(of = "HISTORY", says = "There is one snapshot, empty at first.")
    static void oneSnapshot(Check check) {
        Twins.stays(check, "restore() without a snapshot", bay -> Bays.inMode(bay, 2), StarterBay::restore, Bays.N);
        StarterBay bay = new StarterBay();
        bay.setLimit(101);
        bay.keep();
        bay.setLimit(102);
        bay.keep();
        bay.setLimit(103);
        bay.restore();
        check.due("count(6): the later one took its place", bay.count(6), 102);
        bay.restore();
        check.due("count(6): there is no other one behind it", bay.count(6), 102);
    }

    // A bay in which every part of a state is another one than in a new bay.
    private static void makeRich(StarterBay bay) {
        bay.addMotor(10, 2, 2, 1000);
        bay.addMotor(20, 9, 3, 5000);
        bay.addMotor(30, 2, 3, 2000);
        bay.addMotor(10, 2, 2, 104);
        bay.setNeed(1, 8);
        bay.setLimit(900);
        for (int number = 0; number < 4; number++) {
            bay.request(number);
        }
        Bays.read(bay, "0 stop 7;3 lose 2 1;14 fan 1;20 lose 0 1;20 lose 1 1;30 stop 0");
        bay.pass(15);
        bay.losePhases(0, 3);
        bay.pass(2);
    }

    private static void ruin(StarterBay bay) {
        bay.setLimit(50);
        bay.setFan(false);
        bay.setNeed(1, 0);
        bay.losePhases(0, 0);
        bay.losePhases(2, 0);
        bay.stop(1);
        bay.addMotor(5, 5, 5, 5000);
        bay.pass(60);
        Bays.read(bay, "7 stop 6;8 stop 5");
        bay.request(1);
        bay.request(2);
        bay.pass(60);
    }

    @Sentence(of = "HISTORY", says = STATE)
    static void everythingComesBack(Check check) {
        Twins.Calls[] ways = {bay -> {
            bay.keep();
            ruin(bay);
            bay.restore();
        }, bay -> {
            bay.keep();
            ruin(bay);
            bay.restore();
            bay.pass(60);
            bay.undo();
        }};
        for (int way = 0; way < ways.length; way++) {
            StarterBay due = new StarterBay();
            makeRich(due);
            StarterBay bay = new StarterBay();
            makeRich(bay);
            ways[way].on(bay);
            // Not those of a state: the reason, the states of the history, the text.
            String[] apart = {"count(8)", "count(16)", "count(17)"};
            String told = Everything.without(Everything.of(bay), apart);
            String difference = Everything.difference(told, Everything.without(Everything.of(due), apart));
            check.yes("all is as it was, way " + way + ", but: " + difference, difference.isEmpty());
            // The loss of the motor 0 is in its third second then: what is not told comes back as well.
            due.pass(1);
            bay.pass(1);
            check.due("motor(0, 5)", bay.motor(0, 5), 4);
            difference = Everything.difference(Everything.without(Everything.of(bay), apart),
                    Everything.without(Everything.of(due), apart));
            check.yes("all goes on as it would have, way " + way + ", but: " + difference, difference.isEmpty());
        }
    }

    @Sentence(of = "HISTORY", says = STATE)
    static void theRichBayHasAllParts(Check check) {
        StarterBay bay = new StarterBay();
        makeRich(bay);
        check.due("count(10)", bay.count(10), 1);
        check.due("count(9)", bay.count(9), 3);
        check.due("count(7)", bay.count(7), 1);
        check.due("count(15): 4 start, 3 are running, 2 trip", bay.count(15), 9);
        int[] modes = {3, 3, 4, 4};
        for (int number = 0; number < 4; number++) {
            check.due("motor(" + number + ", 5)", bay.motor(number, 5), modes[number]);
        }
    }

    @Sentence(of = "HISTORY", says = STATE)
    static void theTextAndTheReasonDoNotComeBack(Check check) {
        StarterBay bay = new StarterBay();
        Bays.addSmall(bay, 1);
        Bays.typeAll(bay, "0 fan");
        bay.keep();
        bay.setLimit(99);
        Bays.typeAll(bay, " 1");
        bay.stop(0);
        bay.undo();
        check.due("count(17) behind undo()", bay.count(17), 7);
        check.due("count(8) behind undo()", bay.count(8), 1);
        bay.restore();
        check.due("count(17) behind restore()", bay.count(17), 7);
        check.due("count(8) behind restore()", bay.count(8), 1);
        check.due("readTimetable()", bay.readTimetable(), 1);
        bay.clearText();
        bay.undo();
        check.due("count(17) behind undo()", bay.count(17), 0);
        check.due("readTimetable()", bay.readTimetable(), -100);
    }

    @Sentence(of = "HISTORY", says = STATE)
    static void theHistoryAndTheSnapshotDoNotComeBack(Check check) {
        StarterBay bay = new StarterBay();
        bay.setLimit(101);
        bay.keep();
        bay.setLimit(102);
        bay.setLimit(103);
        check.due("restore(): it adds to the history", bay.restore(), 0);
        check.due("count(16)", bay.count(16), 4);
        bay.undo();
        check.due("count(6)", bay.count(6), 103);
        bay.keep();
        bay.undo();
        check.due("count(6)", bay.count(6), 102);
        bay.restore();
        check.due("count(6): undo() has not brought the older snapshot back", bay.count(6), 103);
    }
}
