/** Promises 17 to 22. */
public final class ToldTest {
    public static void main(String[] args) {
        Check check = new Check();
        motor(check);
        account(check);
        queue(check);
        whyNot(check);
        event(check);
        item(check);
        check.end();
    }

    private static void motor(Check check) {
        check.part("promise 17");
        StarterBay bay = new StarterBay();
        check.due("motor(0, 13)", bay.motor(0, 13), Bays.U);
        bay.addMotor(11, 4, 3, 700);
        check.due("motor(-1, 0)", bay.motor(-1, 0), Bays.U);
        check.due("motor(1, 0)", bay.motor(1, 0), Bays.U);
        check.due("motor(0, -1)", bay.motor(0, -1), Bays.B);
        check.due("motor(0, 13)", bay.motor(0, 13), Bays.B);
        all(check, bay, "stopped", 11, 4, 3, 700, 5, 0, 0, 0, Bays.N, Bays.N, 0, Bays.N, 700);
        bay.request(0);
        all(check, bay, "waiting", 11, 4, 3, 700, 5, 1, 0, 0, Bays.N, 0, 0, Bays.N, 700);
        // 33 A in 4 seconds: 9, 17, 25, 33, with the heats 8, 28, 62, 108.
        bay.pass(2);
        all(check, bay, "starting", 11, 4, 3, 700, 5, 2, 35, 0, 2, Bays.N, 25, Bays.N, 665);
        bay.pass(2);
        all(check, bay, "running", 11, 4, 3, 700, 5, 3, 194, 0, Bays.N, Bays.N, 11, Bays.N, 506);
        bay.losePhases(0, 3);
        all(check, bay, "with lost phases", 11, 4, 3, 700, 5, 3, 194, 3, Bays.N, Bays.N, 16, Bays.N, 506);
        bay.pass(3);
        check.due("motor(0, 10) when it has tripped", bay.motor(0, 10), 0);
        check.due("motor(0, 11)", bay.motor(0, 11), 4);
        StarterBay hot = Bays.running(104);
        hot.pass(8);
        check.due("motor(0, 6)", hot.motor(0, 6), 105);
        check.due("motor(0, 11)", hot.motor(0, 11), 2);
        check.due("motor(0, 12): the credit is negative", hot.motor(0, 12), 0);
    }

    private static void all(Check check, StarterBay bay, String when, int... due) {
        for (int what = 0; what < due.length; what++) {
            check.due("motor(0, " + what + "), " + when, bay.motor(0, what), due[what]);
        }
    }

    private static void account(Check check) {
        check.part("promise 18");
        StarterBay bay = new StarterBay();
        check.due("account(0, 7)", bay.account(0, 7), Bays.U);
        bay.addMotor(10, 2, 2, 1000);
        check.due("account(-1, 0)", bay.account(-1, 0), Bays.U);
        check.due("account(1, 0)", bay.account(1, 0), Bays.U);
        check.due("account(0, -1)", bay.account(0, -1), Bays.B);
        check.due("account(0, 7)", bay.account(0, 7), Bays.B);
        bay.losePhases(0, 1);
        bay.request(0);
        bay.pass(4);
        bay.losePhases(0, 0);
        bay.pass(3);
        bay.losePhases(0, 1);
        bay.pass(10);
        int[] due = {50 + 10 + 3 * 44, 2 + 2, 1, 1, 6, 4, 0};
        check.due("account(0, 0)", bay.account(0, 0), due[0]);
        for (int what = 2; what < due.length; what++) {
            check.due("account(0, " + what + ")", bay.account(0, what), due[what]);
        }
        check.due("what it holds is the difference", bay.motor(0, 6), bay.account(0, 0) - bay.account(0, 1));
        bay.losePhases(0, 0);
        bay.pass(60);
        bay.reset(0);
        bay.request(0);
        bay.pass(1);
        check.due("account(0, 2)", bay.account(0, 2), 2);
        check.due("account(0, 4)", bay.account(0, 4), 7);
        check.due("account(0, 5)", bay.account(0, 5), 4);
    }

    private static void queue(Check check) {
        check.part("promise 19");
        StarterBay bay = new StarterBay();
        check.due("queue(-1)", bay.queue(-1), Bays.B);
        check.due("queue(0)", bay.queue(0), Bays.N);
        for (int number = 0; number < 8; number++) {
            bay.addMotor(10, 2, 2, 1000);
            bay.losePhases(number, 1);
        }
        int[] needs = {5, 9, 0, 5, 7, 9, 5, 1};
        for (int number = 7; number >= 0; number--) {
            bay.setNeed(number, needs[number]);
            bay.request(number);
        }
        int[] line = {1, 5, 4, 0, 3, 6, 7, 2};
        for (int place = 0; place < 8; place++) {
            check.due("queue(" + place + ")", bay.queue(place), line[place]);
        }
        check.due("queue(8)", bay.queue(8), Bays.N);
        check.due("queue(MAX_VALUE)", bay.queue(Integer.MAX_VALUE), Bays.N);
        bay.stop(0);
        bay.pass(1);
        bay.request(0);
        check.due("queue(3): it has waited longer", bay.queue(3), 3);
        check.due("queue(5)", bay.queue(5), 0);
        bay.stop(5);
        check.due("queue(1)", bay.queue(1), 4);
        check.due("queue(7)", bay.queue(7), Bays.N);
    }

    private static void whyNot(Check check) {
        check.part("promise 20");
        StarterBay bay = new StarterBay();
        check.due("whyNot(0)", bay.whyNot(0), Bays.U);
        // A start heat of 1000 + 4000, a peak of 200.
        bay.addMotor(100, 2, 2, 5000);
        bay.addMotor(100, 2, 2, 4999);
        check.due("whyNot(-1)", bay.whyNot(-1), Bays.U);
        check.due("whyNot(2)", bay.whyNot(2), Bays.U);
        check.due("whyNot of a stopped motor", bay.whyNot(0), Bays.N);
        bay.request(0);
        bay.request(1);
        check.due("whyNot(0): the credit is the start heat", bay.whyNot(0), 0);
        check.due("whyNot(1): one too little", bay.whyNot(1), 2);
        bay.setLimit(199);
        check.due("whyNot(0)", bay.whyNot(0), 3);
        check.due("whyNot(1): heat is ahead of the current", bay.whyNot(1), 2);
        bay.losePhases(0, 4);
        bay.losePhases(1, 4);
        check.due("whyNot(0): phases are ahead of the current", bay.whyNot(0), 4);
        check.due("whyNot(1): phases are ahead of heat", bay.whyNot(1), 4);
        bay.losePhases(0, 0);
        bay.setLimit(200);
        check.due("whyNot(0)", bay.whyNot(0), 0);
        check.due("count(8): no reason is set", bay.count(8), 0);
        bay.pass(1);
        check.due("whyNot of a starting motor", bay.whyNot(0), Bays.N);
    }

    private static void event(Check check) {
        check.part("promise 21");
        StarterBay bay = new StarterBay();
        check.due("event(0, 0)", bay.event(0, 0), Bays.N);
        check.due("event(-1, 0)", bay.event(-1, 0), Bays.B);
        check.due("event(0, -1)", bay.event(0, -1), Bays.B);
        check.due("event(9, 3)", bay.event(9, 3), Bays.B);
        for (int number = 0; number < 8; number++) {
            bay.addMotor(10, 2, 2, 1000);
        }
        for (int number = 0; number < 8; number++) {
            bay.request(number);
            bay.stop(number);
            bay.pass(1);
        }
        check.due("count(15)", bay.count(15), 8);
        for (int event = 0; event < 8; event++) {
            check.due("event(" + event + ", 0)", bay.event(event, 0), 7 - event);
            check.due("event(" + event + ", 1)", bay.event(event, 1), 7 - event);
            check.due("event(" + event + ", 2)", bay.event(event, 2), 3);
        }
        check.due("event(8, 0)", bay.event(8, 0), Bays.N);
        bay.request(2);
        bay.pass(2);
        bay.request(0);
        bay.stop(0);
        check.due("count(15)", bay.count(15), 11);
        check.due("event(0, 2)", bay.event(0, 2), 3);
        check.due("event(1, 2)", bay.event(1, 2), 2);
        check.due("event(2, 2)", bay.event(2, 2), 1);
        check.due("event(2, 1)", bay.event(2, 1), 2);
        check.due("event(9, 1): the oldest one that is kept", bay.event(9, 1), 1);
        check.due("event(10, 1)", bay.event(10, 1), Bays.N);
        check.due("event(MAX_VALUE, 1)", bay.event(Integer.MAX_VALUE, 1), Bays.N);
        check.due("undo()", bay.undo(), 3);
        check.due("event(0, 2)", bay.event(0, 2), 2);
        check.due("count(15)", bay.count(15), 10);
        check.due("event(9, 1)", bay.event(9, 1), 0);
        eventsOfOneSecond(check);
    }

    private static void eventsOfOneSecond(Check check) {
        StarterBay bay = new StarterBay();
        bay.addMotor(10, 2, 2, 60000);
        bay.addMotor(10, 2, 2, 60000);
        bay.addMotor(10, 2, 2, 60000);
        bay.request(2);
        bay.pass(2);
        bay.request(1);
        bay.pass(1);
        bay.request(0);
        Bays.read(bay, "0 stop 2");
        bay.pass(1);
        // The stop of the item, then the start, then what point 3 finds.
        int[] motors = {1, 0, 2};
        int[] kinds = {2, 1, 3};
        for (int event = 0; event < 3; event++) {
            check.due("event(" + event + ", 0)", bay.event(event, 0), 3);
            check.due("event(" + event + ", 1)", bay.event(event, 1), motors[event]);
            check.due("event(" + event + ", 2)", bay.event(event, 2), kinds[event]);
        }
    }

    private static void item(Check check) {
        check.part("promise 22");
        StarterBay bay = new StarterBay();
        check.due("item(0, 0)", bay.item(0, 0), Bays.N);
        check.due("item(-1, 0)", bay.item(-1, 0), Bays.B);
        check.due("item(0, -1)", bay.item(0, -1), Bays.B);
        check.due("item(0, 4)", bay.item(0, 4), Bays.B);
        bay.pass(10);
        Bays.read(bay, "0 start 1;2 stop 2;3 lose 3 6;40 reset 4;9999 fan 1");
        int[][] due = {{0, 0, 1, Bays.N}, {2, 1, 2, Bays.N}, {3, 2, 3, 6}, {40, 3, 4, Bays.N}, {9999, 4, 1, Bays.N}};
        for (int item = 0; item < 5; item++) {
            for (int what = 0; what < 4; what++) {
                check.due("item(" + item + ", " + what + ")", bay.item(item, what), due[item][what]);
            }
        }
        check.due("item(5, 0)", bay.item(5, 0), Bays.N);
        check.due("item(MAX_VALUE, 0)", bay.item(Integer.MAX_VALUE, 0), Bays.N);
        bay.pass(3);
        check.due("count(9)", bay.count(9), 3);
        for (int item = 0; item < 3; item++) {
            check.due("item(" + item + ", 0)", bay.item(item, 0), due[item + 2][0] - 3);
            check.due("item(" + item + ", 2)", bay.item(item, 2), due[item + 2][2]);
        }
        check.due("item(3, 0)", bay.item(3, 0), Bays.N);
    }
}
