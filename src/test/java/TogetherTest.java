/** Where several sentences of the document act together in one second, or in one call. */
public final class TogetherTest {
    public static void main(String[] args) {
        Check.all(TogetherTest.class);
    }

    // A trip, a mended phase, a reset, a request, a start and the heat of its second 0, all at the clock 1.
    static void fromTripToStartInOneSecond(Check check) {
        StarterBay bay = new StarterBay();
        Bays.addSmall(bay, 1);
        bay.request(0);
        bay.pass(1);
        check.due("readTimetable()", Bays.read(bay, "0 lose 0 1;0 lose 0 0;0 reset 0;0 start 0"), 4);
        check.due("pass(1)", bay.pass(1), 1);
        int[] kinds = {1, 6, 5, 1};
        for (int event = 0; event < 4; event++) {
            check.due("event(" + event + ", 2)", bay.event(event, 2), kinds[event]);
            check.due("event(" + event + ", 0)", bay.event(event, 0), event < 3 ? 1 : 0);
        }
        check.due("count(15)", bay.count(15), 4);
        check.due("count(10)", bay.count(10), 0);
        check.due("motor(0, 5)", bay.motor(0, 5), 2);
        check.due("motor(0, 6): 10 of each second 0", bay.motor(0, 6), 20);
        check.due("motor(0, 8)", bay.motor(0, 8), 1);
        int[] accounts = {20, 0, 2, 1, 2, 0, 0};
        for (int what = 0; what < accounts.length; what++) {
            check.due("account(0, " + what + ")", bay.account(0, what), accounts[what]);
        }
    }

    // Point 3 finds a motor that tripped in point 1: it draws nothing, does not turn, and gives off at the rate 20.
    static void trippedByAnItemItDoesNotTurn(Check check) {
        StarterBay bay = new StarterBay();
        bay.addMotor(50, 2, 2, 60000);
        bay.request(0);
        bay.pass(1);
        check.due("motor(0, 6): 250 - 10", bay.motor(0, 6), 240);
        Bays.read(bay, "0 lose 0 4");
        bay.pass(1);
        check.due("motor(0, 6): 240 - 4", bay.motor(0, 6), 236);
        check.due("account(0, 4)", bay.account(0, 4), 1);
        check.due("motor(0, 11)", bay.motor(0, 11), 4);
    }

    static void aTripMakesRoomInTheNextSecond(Check check) {
        StarterBay bay = new StarterBay();
        Bays.addSmall(bay, 2);
        bay.setLimit(29);
        bay.request(0);
        bay.pass(2);
        bay.request(1);
        bay.losePhases(0, 1);
        check.due("whyNot(1): 20 and 15 of 29", bay.whyNot(1), 3);
        check.due("pass(3): it trips behind the start of this second", bay.pass(3), 0);
        check.due("motor(0, 5)", bay.motor(0, 5), 4);
        check.due("whyNot(1)", bay.whyNot(1), 0);
        check.due("pass(1)", bay.pass(1), 1);
    }

    static void anItemMakesRoomInItsSecond(Check check) {
        String[] texts = {"0 fan 1", "0 stop 0", "0 stop 1", "0 lose 1 1"};
        int[] started = {0, 1, 0, 0};
        for (int place = 0; place < texts.length; place++) {
            StarterBay bay = new StarterBay();
            Bays.addSmall(bay, 2);
            bay.setLimit(29);
            bay.request(0);
            bay.pass(2);
            bay.request(1);
            Bays.read(bay, texts[place]);
            check.due("pass(1) with " + texts[place], bay.pass(1), started[place]);
        }
    }

    static void stoppedByAnItemItIsNotPassedOver(Check check) {
        StarterBay bay = new StarterBay();
        Bays.addSmall(bay, 3);
        bay.losePhases(0, 1);
        bay.losePhases(1, 1);
        for (int number = 0; number < 3; number++) {
            bay.request(number);
        }
        Bays.read(bay, "0 stop 0");
        check.due("pass(1)", bay.pass(1), 1);
        check.due("motor(2, 5)", bay.motor(2, 5), 2);
        check.due("account(0, 6): it is not in the queue", bay.account(0, 6), 0);
        check.due("account(1, 6)", bay.account(1, 6), 1);
    }

    // Both can start from the clock 9 or 10 on: at 9 the needs 5 and 6 decide, at 10 the one that waits for 10 seconds.
    static void urgencyInTheSecondInWhichItGrows(Check check) {
        for (int time = 8; time <= 9; time++) {
            StarterBay bay = new StarterBay();
            Bays.addSmall(bay, 2);
            bay.setNeed(1, 6);
            bay.losePhases(0, 7);
            bay.losePhases(1, 7);
            bay.request(0);
            bay.pass(1);
            bay.request(1);
            Bays.read(bay, time + " lose 0 0;" + time + " lose 1 0");
            check.due("pass", bay.pass(time + 1), 1);
            check.due("motor(0, 5) at " + time, bay.motor(0, 5), time == 8 ? 1 : 2);
            check.due("motor(1, 5) at " + time, bay.motor(1, 5), time == 8 ? 2 : 1);
            check.due("account(0, 6): only those ahead are passed over", bay.account(0, 6), 0);
            check.due("account(1, 6)", bay.account(1, 6), 0);
        }
    }

    // Items mend a loss and bring it again ahead of point 3, which finds it in a third second; or a second later.
    static void aLossThatItemsMend(Check check) {
        StarterBay same = Bays.running(60000);
        same.losePhases(0, 1);
        same.pass(2);
        Bays.read(same, "0 lose 0 0;0 lose 0 6");
        same.pass(1);
        check.due("motor(0, 11)", same.motor(0, 11), 4);
        check.due("event(0, 2)", same.event(0, 2), 5);
        StarterBay later = Bays.running(60000);
        later.losePhases(0, 1);
        later.pass(2);
        Bays.read(later, "0 lose 0 0;1 lose 0 6");
        later.pass(3);
        check.due("motor(0, 5) in its second one", later.motor(0, 5), 3);
        later.pass(1);
        check.due("motor(0, 5) in its third one", later.motor(0, 5), 4);
    }

    static void theLastRefusedItemTellsTheReason(Check check) {
        String[] texts = {"0 reset 0;1 start 0", "0 start 0;1 reset 0", "0 reset 0;1 stop 7", "0 reset 0;1 lose 0 1"};
        int[] reasons = {1, 4, 4, 4};
        int[] refused = {2, 2, 2, 1};
        for (int place = 0; place < texts.length; place++) {
            StarterBay bay = Bays.tripped();
            Bays.read(bay, texts[place]);
            bay.pass(2);
            check.due("count(8) by " + texts[place], bay.count(8), reasons[place]);
            check.due("count(10) by " + texts[place], bay.count(10), refused[place]);
            check.due("count(9)", bay.count(9), 0);
            bay.undo();
            check.due("count(8) stays, by " + texts[place], bay.count(8), reasons[place]);
            check.due("count(10) comes back", bay.count(10), 0);
            check.due("count(9) comes back", bay.count(9), 2);
        }
    }

    // Whether there is a motor is asked when the item is due, not when it is read.
    static void anItemForAMotorThatIsAddedLater(Check check) {
        StarterBay bay = new StarterBay();
        check.due("readTimetable()", Bays.read(bay, "1 start 0;2 start 1"), 2);
        bay.addMotor(10, 2, 2, 1000);
        check.due("pass(2)", bay.pass(2), 1);
        check.due("count(10)", bay.count(10), 0);
        check.due("pass(1)", bay.pass(1), 0);
        check.due("count(10)", bay.count(10), 1);
        check.due("count(8)", bay.count(8), 0);
        bay.undo();
        bay.addMotor(10, 2, 2, 1000);
        bay.pass(2);
        check.due("count(10) with the motor", bay.count(10), 0);
        check.due("account(1, 2): the motor 0 is starting, which leaves room", bay.account(1, 2), 1);
    }

    // Acts between the seconds see the clock that stands: what was requested ahead of a second has waited for one.
    static void requestedByACallOrByAnItem(Check check) {
        StarterBay bay = new StarterBay();
        Bays.addSmall(bay, 2);
        bay.losePhases(0, 1);
        bay.losePhases(1, 1);
        bay.request(1);
        Bays.read(bay, "0 start 0;1 stop 1;1 start 1");
        bay.pass(1);
        check.due("motor(0, 9)", bay.motor(0, 9), 1);
        check.due("motor(1, 9)", bay.motor(1, 9), 1);
        check.due("queue(0): of the same, the lower number", bay.queue(0), 0);
        bay.pass(1);
        check.due("motor(0, 9)", bay.motor(0, 9), 2);
        check.due("motor(1, 9): requested anew at the clock 1", bay.motor(1, 9), 1);
        check.due("account(1, 5): point 3 found it waiting in both", bay.account(1, 5), 2);
    }

    static void aLowerLimitStopsNone(Check check) {
        StarterBay bay = new StarterBay();
        Bays.addSmall(bay, 3);
        bay.request(0);
        bay.request(1);
        bay.pass(2);
        bay.setLimit(10);
        bay.request(2);
        check.due("count(14): 10 and 20", bay.count(14), 30);
        check.due("pass(1)", bay.pass(1), 0);
        check.due("count(3)", bay.count(3), 2);
        check.due("whyNot(2)", bay.whyNot(2), 3);
    }

    // A snapshot is of its own clock, so what was left then is due after as many seconds as then.
    static void aSnapshotInTheMidstOfATimetable(Check check) {
        StarterBay bay = new StarterBay();
        Bays.addSmall(bay, 1);
        Bays.read(bay, "0 start 0;4 stop 0;9 start 0");
        bay.pass(3);
        check.due("keep()", bay.keep(), 3);
        bay.pass(60);
        Bays.read(bay, "7 fan 1");
        check.due("restore()", bay.restore(), 3);
        check.due("count(9)", bay.count(9), 2);
        check.due("item(0, 0)", bay.item(0, 0), 1);
        check.due("item(1, 0)", bay.item(1, 0), 6);
        check.due("pass(7)", bay.pass(7), 1);
        check.due("event(0, 0)", bay.event(0, 0), 9);
        check.due("event(1, 0)", bay.event(1, 0), 4);
        check.due("readTimetable(): the text is the later one", bay.readTimetable(), 1);
        check.due("undo(): the reading", bay.undo(), 3);
        check.due("undo(): the pass", bay.undo(), 2);
        check.due("undo(): the restore", bay.undo(), 1);
        check.due("count(5)", bay.count(5), 63);
        check.due("item(0, 1)", bay.item(0, 1), 4);
    }
}
