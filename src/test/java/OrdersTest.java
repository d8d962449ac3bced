/** Promises 6 to 9: request, stop, losePhases and reset. */
public final class OrdersTest {
    public static void main(String[] args) {
        Check check = new Check();
        request(check);
        stop(check);
        losePhases(check);
        reset(check);
        resetByHeat(check);
        check.end();
    }

    private static void request(Check check) {
        check.part("promise 6");
        StarterBay bay = new StarterBay();
        check.due("request(0)", bay.request(0), Bays.U);
        for (int number = 0; number < 4; number++) {
            bay.addMotor(10, 2, 2, 1000);
        }
        check.due("request(-1)", bay.request(-1), Bays.U);
        check.due("request(4)", bay.request(4), Bays.U);
        check.due("request(2)", bay.request(2), 0);
        check.due("motor(2, 5)", bay.motor(2, 5), 1);
        check.due("motor(2, 9)", bay.motor(2, 9), 0);
        check.due("request(1), the lower number is ahead", bay.request(1), 0);
        bay.setNeed(3, 6);
        check.due("request(3), the greater need is ahead", bay.request(3), 0);
        check.due("request(0), ahead of those of its need", bay.request(0), 1);
        check.due("count(16)", bay.count(16), 4);
        check.due("request(0) again", bay.request(0), Bays.R);
        check.due("count(8)", bay.count(8), 1);
        check.due("count(15): no event", bay.count(15), 0);
        bay.pass(1);
        check.due("request of a motor that is starting", bay.request(3), Bays.R);
        StarterBay tripped = Bays.tripped();
        check.due("request of a tripped motor", tripped.request(0), Bays.R);
        StarterBay running = Bays.running(1000);
        check.due("request of a running motor", running.request(0), Bays.R);
        check.due("stop(0)", running.stop(0), 3);
        check.due("request of a motor that was stopped", running.request(0), 0);
    }

    private static void stop(Check check) {
        check.part("promise 7");
        StarterBay bay = new StarterBay();
        check.due("stop(0)", bay.stop(0), Bays.U);
        bay.addMotor(10, 2, 2, 1000);
        check.due("stop(-1)", bay.stop(-1), Bays.U);
        check.due("stop of a stopped motor", bay.stop(0), Bays.R);
        check.due("count(8)", bay.count(8), 1);
        check.due("count(16)", bay.count(16), 1);
        bay.request(0);
        check.due("stop of a waiting motor", bay.stop(0), 1);
        check.due("motor(0, 5)", bay.motor(0, 5), 0);
        check.due("event(0, 2)", bay.event(0, 2), 3);
        bay.request(0);
        bay.pass(1);
        check.due("stop of a starting motor", bay.stop(0), 2);
        check.due("motor(0, 8)", bay.motor(0, 8), Bays.N);
        check.due("event(0, 0)", bay.event(0, 0), 1);
        bay.request(0);
        bay.pass(2);
        check.due("stop of a running motor", bay.stop(0), 3);
        check.due("count(15)", bay.count(15), 6);
        StarterBay tripped = Bays.tripped();
        check.due("stop of a tripped motor", tripped.stop(0), Bays.R);
        check.due("motor(0, 5)", tripped.motor(0, 5), 4);
    }

    private static void losePhases(Check check) {
        check.part("promise 8");
        StarterBay bay = new StarterBay();
        check.due("losePhases(0, 8)", bay.losePhases(0, 8), Bays.U);
        bay.addMotor(10, 2, 2, 1000);
        check.due("losePhases(0, 8)", bay.losePhases(0, 8), Bays.B);
        check.due("losePhases(0, -1)", bay.losePhases(0, -1), Bays.B);
        check.due("losePhases(0, 0)", bay.losePhases(0, 0), Bays.N);
        check.due("losePhases(0, 7)", bay.losePhases(0, 7), 0);
        check.due("losePhases(0, 2)", bay.losePhases(0, 2), 7);
        check.due("motor(0, 7)", bay.motor(0, 7), 2);
        check.due("motor(0, 5): stopped stays", bay.motor(0, 5), 0);
        bay.losePhases(0, 0);
        bay.request(0);
        check.due("losePhases of a waiting motor", bay.losePhases(0, 1), 0);
        check.due("motor(0, 5): waiting stays", bay.motor(0, 5), 1);
        bay.losePhases(0, 0);
        bay.pass(1);
        check.due("losePhases(0, 4) of a starting motor", bay.losePhases(0, 4), 0);
        check.due("motor(0, 5)", bay.motor(0, 5), 4);
        check.due("motor(0, 11)", bay.motor(0, 11), 4);
        check.due("account(0, 3)", bay.account(0, 3), 1);
        check.due("event(0, 2)", bay.event(0, 2), 5);
        check.due("event(0, 0)", bay.event(0, 0), 1);
        check.due("undo()", bay.undo(), 3);
        check.due("motor(0, 5)", bay.motor(0, 5), 2);
        check.due("account(0, 3)", bay.account(0, 3), 0);
        StarterBay running = Bays.running(1000);
        check.due("losePhases of a running motor", running.losePhases(0, 7), 0);
        check.due("motor(0, 5): running stays", running.motor(0, 5), 3);
    }

    private static void reset(Check check) {
        check.part("promise 9");
        StarterBay bay = Bays.tripped();
        check.due("reset(1)", bay.reset(1), Bays.U);
        check.due("reset(-1)", bay.reset(-1), Bays.U);
        check.due("reset with a lost phase", bay.reset(0), Bays.R);
        check.due("count(8)", bay.count(8), 4);
        bay.losePhases(0, 0);
        check.due("motor(0, 5): tripped stays", bay.motor(0, 5), 4);
        check.due("reset(0)", bay.reset(0), 10);
        check.due("motor(0, 5)", bay.motor(0, 5), 0);
        check.due("motor(0, 11)", bay.motor(0, 11), Bays.N);
        check.due("event(0, 2)", bay.event(0, 2), 6);
        check.due("count(15)", bay.count(15), 3);
        bay.losePhases(0, 1);
        check.due("reset of a stopped motor", bay.reset(0), Bays.R);
        check.due("count(8): the mode is first", bay.count(8), 1);
    }

    private static void resetByHeat(Check check) {
        check.part("promise 9, heat");
        // Below 100 a motor that stands gives off 1 in a second, so that it comes by every heat.
        for (int limit = 110; limit <= 113; limit++) {
            StarterBay bay = Bays.running(limit);
            for (int seconds = 0; seconds < 60 && bay.motor(0, 5) != 4; seconds++) {
                bay.pass(1);
            }
            check.due("motor(0, 11)", bay.motor(0, 11), 2);
            bay.losePhases(0, 1);
            check.due("reset, hot and with a lost phase", bay.reset(0), Bays.R);
            check.due("count(8)", bay.count(8), 4);
            bay.losePhases(0, 0);
            for (int seconds = 0; seconds < 60 && bay.motor(0, 6) > 57; seconds++) {
                check.due("reset, hot", bay.reset(0), Bays.R);
                bay.pass(1);
            }
            check.due("motor(0, 6)", bay.motor(0, 6), 57);
            check.due("reset at 57 of " + limit, bay.reset(0), Bays.R);
            check.due("count(8)", bay.count(8), 2);
            bay.pass(1);
            check.due("reset at 56 of " + limit, bay.reset(0), limit < 112 ? Bays.R : 56);
            bay.pass(1);
            check.due("reset at 55 of " + limit, bay.reset(0), limit < 112 ? 55 : Bays.R);
        }
    }
}
