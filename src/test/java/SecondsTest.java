/** Promise 10, with the current, the queue and the points of a second. */
public final class SecondsTest {
    public static void main(String[] args) {
        Check check = new Check();
        arguments(check);
        ramp(check);
        heatGivenOff(check);
        tripForHeat(check);
        tripForPhases(check);
        lossBetweenSeconds(check);
        onlyOneStarts(check);
        passedOver(check);
        urgencyGrows(check);
        limitOfTheBay(check);
        check.end();
    }

    private static void arguments(Check check) {
        check.part("promise 10, arguments");
        StarterBay bay = new StarterBay();
        check.due("pass(0)", bay.pass(0), Bays.B);
        check.due("pass(61)", bay.pass(61), Bays.B);
        check.due("pass(-1)", bay.pass(-1), Bays.B);
        check.due("count(5)", bay.count(5), 0);
        check.due("count(16)", bay.count(16), 0);
        check.due("pass(1)", bay.pass(1), 0);
        check.due("pass(60)", bay.pass(60), 0);
        check.due("count(5)", bay.count(5), 61);
        check.due("count(16)", bay.count(16), 2);
        check.due("undo()", bay.undo(), 1);
        check.due("count(5)", bay.count(5), 1);
    }

    private static void ramp(Check check) {
        check.part("ramp");
        StarterBay bay = new StarterBay();
        bay.addMotor(10, 3, 2, 1000);
        bay.request(0);
        check.due("motor(0, 10) while it is waiting", bay.motor(0, 10), 0);
        // The currents are 20/3, 40/3 and 60/3, rounded up: 7, 14 and 20.
        int[] drawNext = {14, 20, 10};
        int[] takenIn = {4, 4 + 19, 4 + 19 + 40};
        for (int second = 0; second < 3; second++) {
            check.due("pass(1)", bay.pass(1), second == 0 ? 1 : 0);
            check.due("motor(0, 5)", bay.motor(0, 5), second == 2 ? 3 : 2);
            check.due("motor(0, 8)", bay.motor(0, 8), second == 2 ? Bays.N : second + 1);
            check.due("motor(0, 10)", bay.motor(0, 10), drawNext[second]);
            check.due("account(0, 0)", bay.account(0, 0), takenIn[second]);
        }
        check.due("account(0, 2)", bay.account(0, 2), 1);
        check.due("account(0, 4)", bay.account(0, 4), 3);
        check.due("event(0, 0)", bay.event(0, 0), 2);
        check.due("event(0, 2)", bay.event(0, 2), 2);
        check.due("event(1, 0)", bay.event(1, 0), 0);
        check.due("event(1, 2)", bay.event(1, 2), 1);
        bay.stop(0);
        check.due("motor(0, 10)", bay.motor(0, 10), 0);
        bay.request(0);
        check.due("pass(1): the ramp begins anew", bay.pass(1), 1);
        check.due("motor(0, 8)", bay.motor(0, 8), 1);
    }

    private static void heatGivenOff(Check check) {
        check.part("heat given off");
        StarterBay bay = new StarterBay();
        bay.addMotor(100, 2, 2, 60000);
        bay.request(0);
        bay.pass(2);
        // 1000 - 40 + 4000 - 198 = 4762
        check.due("motor(0, 6)", bay.motor(0, 6), 4762);
        bay.keep();
        bay.pass(1);
        check.due("running", bay.motor(0, 6), 5762 - 230);
        bay.restore();
        bay.setFan(true);
        bay.pass(1);
        check.due("running with the fan", bay.motor(0, 6), 5762 - 403);
        bay.restore();
        bay.losePhases(0, 4);
        check.due("motor(0, 10)", bay.motor(0, 10), 150);
        bay.pass(1);
        check.due("running with a lost phase", bay.motor(0, 6), 9262 - 370);
        check.due("account(0, 0)", bay.account(0, 0), 5000 + 4500);
        check.due("account(0, 1)", bay.account(0, 1), 40 + 198 + 370);
        bay.restore();
        bay.stop(0);
        bay.pass(1);
        check.due("stopped", bay.motor(0, 6), 4762 - 95);
        bay.restore();
        bay.stop(0);
        bay.setFan(true);
        bay.pass(1);
        check.due("stopped with the fan", bay.motor(0, 6), 4762 - 238);
        check.due("account(0, 4)", bay.account(0, 4), 2);
        lossIsRoundedAheadOfDoubling(check);
        longRun(check);
    }

    private static void longRun(Check check) {
        StarterBay bay = new StarterBay();
        bay.addMotor(90, 2, 2, 60000);
        bay.request(0);
        bay.pass(2);
        int heat = bay.motor(0, 6);
        for (int second = 0; second < 100; second++) {
            heat += 810;
            heat -= heat * 40 / 1000;
            bay.pass(1);
            check.due("motor(0, 6) in a long run", bay.motor(0, 6), heat);
        }
    }

    // 5 A run with 7 A then, which is 4 rounded down, and 8 in all; not 9.
    private static void lossIsRoundedAheadOfDoubling(Check check) {
        StarterBay bay = new StarterBay();
        bay.addMotor(5, 2, 2, 1000);
        bay.request(0);
        bay.pass(2);
        check.due("account(0, 0)", bay.account(0, 0), 2 + 10);
        bay.losePhases(0, 7);
        check.due("motor(0, 10)", bay.motor(0, 10), 7);
        bay.pass(1);
        check.due("account(0, 0)", bay.account(0, 0), 12 + 8);
    }

    private static void tripForHeat(Check check) {
        check.part("trip for heat");
        // The heat runs 10, 48, 56, 64, 72, 79, 86, 93, 99, 105: at the limit it does not trip.
        int[] limits = {105, 104};
        for (int limit : limits) {
            StarterBay bay = Bays.running(limit);
            bay.pass(8);
            check.due("motor(0, 6)", bay.motor(0, 6), 105);
            check.due("motor(0, 5)", bay.motor(0, 5), limit == 105 ? 3 : 4);
            check.due("account(0, 3)", bay.account(0, 3), limit == 105 ? 0 : 1);
            check.due("event(0, 2)", bay.event(0, 2), limit == 105 ? 2 : 4);
            check.due("event(0, 0)", bay.event(0, 0), limit == 105 ? 1 : 9);
            check.due("account(0, 4)", bay.account(0, 4), 10);
            bay.pass(1);
            check.due("account(0, 4)", bay.account(0, 4), limit == 105 ? 11 : 10);
        }
    }

    private static void tripForPhases(Check check) {
        check.part("trip for phases");
        StarterBay bay = Bays.running(60000);
        bay.losePhases(0, 1);
        bay.pass(1);
        bay.losePhases(0, 6);
        bay.pass(1);
        check.due("motor(0, 5)", bay.motor(0, 5), 3);
        bay.pass(1);
        check.due("motor(0, 5)", bay.motor(0, 5), 4);
        check.due("motor(0, 11)", bay.motor(0, 11), 4);
        check.due("event(0, 2)", bay.event(0, 2), 5);
        check.due("event(0, 0)", bay.event(0, 0), 4);
        StarterBay hot = Bays.running(160);
        hot.losePhases(0, 1);
        hot.pass(3);
        // 48 + 44 - 3, + 44 - 5, + 44 - 6 = 166: in the third second both apply, and heat is first.
        check.due("motor(0, 6)", hot.motor(0, 6), 166);
        check.due("motor(0, 11)", hot.motor(0, 11), 2);
    }

    private static void lossBetweenSeconds(Check check) {
        check.part("loss between seconds");
        StarterBay bay = Bays.running(60000);
        bay.losePhases(0, 1);
        bay.pass(2);
        bay.losePhases(0, 0);
        bay.losePhases(0, 2);
        bay.pass(1);
        check.due("a loss that was mended and came again", bay.motor(0, 5), 4);
        StarterBay mended = Bays.running(60000);
        mended.losePhases(0, 1);
        mended.pass(2);
        mended.losePhases(0, 0);
        mended.pass(1);
        mended.losePhases(0, 1);
        mended.pass(2);
        check.due("a loss that was mended for a second", mended.motor(0, 5), 3);
        mended.pass(1);
        check.due("and its third second", mended.motor(0, 5), 4);
        StarterBay again = Bays.running(60000);
        again.losePhases(0, 1);
        again.pass(2);
        again.stop(0);
        again.losePhases(0, 0);
        again.request(0);
        again.pass(2);
        again.losePhases(0, 1);
        again.pass(2);
        check.due("a motor that was started anew in between", again.motor(0, 5), 3);
        again.pass(1);
        check.due("and its third second", again.motor(0, 5), 4);
    }

    private static void onlyOneStarts(Check check) {
        check.part("one start in a second");
        StarterBay bay = new StarterBay();
        for (int number = 0; number < 3; number++) {
            bay.addMotor(10, 2, 2, 1000);
            bay.request(number);
        }
        check.due("pass(1)", bay.pass(1), 1);
        check.due("count(1)", bay.count(1), 2);
        check.due("motor(0, 5)", bay.motor(0, 5), 2);
        check.due("account(1, 5)", bay.account(1, 5), 1);
        check.due("pass(3)", bay.pass(3), 2);
        check.due("count(1)", bay.count(1), 0);
        check.due("account(2, 5)", bay.account(2, 5), 2);
        check.due("account(2, 6): nobody was passed over", bay.account(2, 6), 0);
    }

    private static void passedOver(Check check) {
        check.part("passed over");
        StarterBay bay = new StarterBay();
        for (int number = 0; number < 4; number++) {
            bay.addMotor(10, 2, 2, 1000);
            bay.setNeed(number, 9 - number);
            bay.request(number);
        }
        bay.losePhases(0, 1);
        bay.losePhases(1, 1);
        check.due("pass(1)", bay.pass(1), 1);
        int[] over = {1, 1, 0, 0};
        for (int number = 0; number < 4; number++) {
            check.due("account(" + number + ", 6)", bay.account(number, 6), over[number]);
        }
        check.due("pass(1)", bay.pass(1), 1);
        check.due("account(0, 6)", bay.account(0, 6), 2);
        check.due("pass(1): nobody starts", bay.pass(1), 0);
        check.due("account(0, 6)", bay.account(0, 6), 2);
        bay.losePhases(1, 0);
        check.due("pass(1)", bay.pass(1), 1);
        check.due("account(0, 6)", bay.account(0, 6), 3);
        check.due("account(1, 6)", bay.account(1, 6), 2);
    }

    private static void urgencyGrows(Check check) {
        check.part("urgency");
        StarterBay bay = new StarterBay();
        bay.addMotor(10, 2, 2, 1000);
        bay.addMotor(10, 2, 2, 1000);
        bay.setNeed(1, 6);
        bay.losePhases(0, 1);
        bay.losePhases(1, 1);
        bay.request(0);
        bay.pass(9);
        check.due("request(1)", bay.request(1), 0);
        check.due("queue(0)", bay.queue(0), 1);
        bay.pass(1);
        check.due("queue(0): 10 full seconds, and it has waited longer", bay.queue(0), 0);
        check.due("motor(0, 9)", bay.motor(0, 9), 10);
        check.due("motor(1, 9)", bay.motor(1, 9), 1);
        bay.pass(8);
        check.due("queue(0)", bay.queue(0), 0);
        bay.pass(1);
        check.due("queue(0): 19 and 10 seconds", bay.queue(0), 1);
        bay.pass(1);
        check.due("queue(0): 20 and 11 seconds", bay.queue(0), 0);
    }

    private static void limitOfTheBay(Check check) {
        check.part("limit of the bay");
        StarterBay bay = new StarterBay();
        bay.addMotor(10, 2, 2, 60000);
        bay.addMotor(20, 4, 3, 60000);
        bay.addMotor(5, 2, 2, 60000);
        bay.request(0);
        bay.pass(2);
        bay.request(1);
        bay.pass(1);
        bay.request(2);
        // 10 of peak, 60 of the peak of the one that is starting, 10 of the one that is running.
        bay.setLimit(79);
        check.due("whyNot(2)", bay.whyNot(2), 3);
        check.due("pass(1)", bay.pass(1), 0);
        bay.setLimit(80);
        check.due("whyNot(2)", bay.whyNot(2), 0);
        bay.losePhases(0, 1);
        check.due("whyNot(2), the other draws 15", bay.whyNot(2), 3);
        bay.setLimit(85);
        check.due("whyNot(2)", bay.whyNot(2), 0);
        check.due("pass(1)", bay.pass(1), 1);
    }
}
