/** Promises 23 to 27. */
public final class ForecastTest {
    public static void main(String[] args) {
        Check check = new Check();
        startHeat(check);
        coolTime(check);
        runTime(check);
        longestRamp(check);
        nothingChanges(check);
        count(check);
        countOfEightMotors(check);
        countAfterUndo(check);
        check.end();
    }

    private static void startHeat(Check check) {
        check.part("promise 23");
        StarterBay bay = new StarterBay();
        check.due("startHeat(0)", bay.startHeat(0), Bays.U);
        bay.addMotor(1, 2, 2, 100);
        bay.addMotor(10, 3, 2, 100);
        bay.addMotor(100, 30, 6, 100);
        check.due("startHeat(-1)", bay.startHeat(-1), Bays.U);
        check.due("startHeat(3)", bay.startHeat(3), Bays.U);
        check.due("startHeat(0)", bay.startHeat(0), 0);
        // 7, 14 and 20 A, each rounded up; 4.9, 19.6 and 40, each rounded down.
        check.due("startHeat(1)", bay.startHeat(1), 4 + 19 + 40);
        // 20, 40 .. 600 A: 40 times the sum of the squares up to 30.
        check.due("startHeat(2)", bay.startHeat(2), 40 * 9455);
    }

    private static void coolTime(Check check) {
        check.part("promise 24");
        StarterBay bay = new StarterBay();
        check.due("coolTime(0)", bay.coolTime(0), Bays.U);
        bay.addMotor(100, 2, 2, 6000);
        check.due("coolTime(-1)", bay.coolTime(-1), Bays.U);
        check.due("coolTime(1)", bay.coolTime(1), Bays.U);
        check.due("coolTime(0)", bay.coolTime(0), 0);
        bay.addMotor(100, 2, 2, 4999);
        check.due("coolTime(1)", bay.coolTime(1), Bays.N);
        bay.request(0);
        bay.pass(2);
        bay.keep();
        check.due("motor(0, 6)", bay.motor(0, 6), 4762);
        int[] rates = {20, 50};
        for (int rate : rates) {
            bay.setFan(rate == 50);
            int heat = 4762;
            int seconds = 0;
            for (; heat > 1000; seconds++) {
                heat -= heat * rate / 1000;
            }
            check.due("coolTime(0) at the rate " + rate, bay.coolTime(0), seconds);
            bay.stop(0);
            check.due("coolTime(0) of the stopped motor", bay.coolTime(0), seconds);
            Bays.passLong(bay, seconds - 1);
            check.due("coolTime(0) in the end", bay.coolTime(0), 1);
            bay.pass(1);
            check.due("coolTime(0) in the end", bay.coolTime(0), 0);
            bay.restore();
        }
        coolTimeThatEndsTooHigh(check);
    }

    // Heat below 50 stays at the rate 20 (below 20 at the rate 50), so that the credit ends 49 short of the limit.
    private static void coolTimeThatEndsTooHigh(Check check) {
        for (int limit = 5018; limit <= 5050; limit++) {
            StarterBay bay = new StarterBay();
            bay.addMotor(100, 2, 2, limit);
            bay.request(0);
            bay.pass(2);
            check.yes("coolTime(0) at the limit " + limit, (bay.coolTime(0) == Bays.N) == (limit < 5049));
            bay.setFan(true);
            check.yes("with the fan", (bay.coolTime(0) == Bays.N) == (limit < 5019));
        }
    }

    private static void runTime(Check check) {
        check.part("promise 25");
        StarterBay bay = new StarterBay();
        check.due("runTime(0)", bay.runTime(0), Bays.U);
        bay.addMotor(10, 2, 2, 104);
        check.due("runTime(-1)", bay.runTime(-1), Bays.U);
        check.due("runTime(1)", bay.runTime(1), Bays.U);
        int cold = 0;
        for (int heat = 0; heat <= 104; cold++) {
            heat += 10;
            heat -= heat * 40 / 1000;
        }
        check.due("runTime(0), cold", bay.runTime(0), cold);
        bay.request(0);
        bay.pass(2);
        check.due("runTime(0)", bay.runTime(0), 8);
        bay.losePhases(0, 1);
        check.due("runTime(0): the lost phase plays no part", bay.runTime(0), 8);
        bay.losePhases(0, 0);
        bay.pass(7);
        check.due("runTime(0)", bay.runTime(0), 1);
        check.due("motor(0, 5)", bay.motor(0, 5), 3);
        bay.pass(1);
        check.due("motor(0, 5)", bay.motor(0, 5), 4);
        check.due("runTime(0) above the limit", bay.runTime(0), 1);
        bay.setFan(true);
        // 10 a second hold some 140 with the fan: 105 + 10 - 8 = 107 is above the limit as well.
        check.due("runTime(0) with the fan", bay.runTime(0), 1);
        StarterBay cool = new StarterBay();
        cool.addMotor(10, 2, 2, 200);
        check.yes("it trips without the fan", cool.runTime(0) > 0);
        cool.setFan(true);
        check.due("runTime(0): with the fan it never trips", cool.runTime(0), Bays.N);
        StarterBay small = new StarterBay();
        small.addMotor(3, 2, 2, 100);
        check.due("runTime(0) without any heat", small.runTime(0), Bays.N);
    }

    private static void longestRamp(Check check) {
        check.part("promise 26");
        StarterBay bay = new StarterBay();
        check.due("longestRamp(0)", bay.longestRamp(0), Bays.U);
        bay.addMotor(10, 2, 2, 60000);
        bay.addMotor(10, 2, 5, 100);
        check.due("longestRamp(-1)", bay.longestRamp(-1), Bays.U);
        check.due("longestRamp(2)", bay.longestRamp(2), Bays.U);
        check.due("longestRamp(0)", bay.longestRamp(0), 30);
        // 25 and 50 A: 62 + 250 are above 100.
        check.due("longestRamp(1)", bay.longestRamp(1), Bays.N);
        for (int limit = 100; limit <= 260; limit++) {
            StarterBay one = new StarterBay();
            one.addMotor(10, 30, 2, limit);
            check.due("longestRamp at " + limit, one.longestRamp(0), plainLongestRamp(20, limit));
        }
        // Peaks of 30 A take in 112 in 2 seconds and 140 in 3.
        for (int limit = 110; limit <= 141; limit++) {
            StarterBay one = new StarterBay();
            one.addMotor(10, 30, 3, limit);
            int due = limit < 112 ? Bays.N : limit < 140 ? 2 : 3;
            check.due("longestRamp at " + limit, Math.min(3, one.longestRamp(0)), due);
        }
        notLongerByCredit(check);
        negativeCredit(check);
    }

    private static int plainLongestRamp(int peak, int credit) {
        int longest = Bays.N;
        for (int ramp = 2; ramp <= 30; ramp++) {
            int heat = 0;
            for (int k = 1; k <= ramp; k++) {
                int current = (int) Math.ceil((double) peak * k / ramp);
                heat += current * current / 10;
            }
            longest = heat <= credit ? ramp : longest;
        }
        return longest;
    }

    // The heat that is held counts: the credit, and not the limit.
    private static void notLongerByCredit(Check check) {
        StarterBay bay = Bays.running(200);
        check.due("motor(0, 12)", bay.motor(0, 12), 152);
        check.due("longestRamp(0)", bay.longestRamp(0), plainLongestRamp(20, 152));
        check.yes("the limit would give another", plainLongestRamp(20, 152) != plainLongestRamp(20, 200));
    }

    private static void negativeCredit(Check check) {
        StarterBay hot = Bays.running(104);
        hot.pass(8);
        check.due("motor(0, 12)", hot.motor(0, 12), 0);
        check.due("longestRamp(0)", hot.longestRamp(0), Bays.N);
        // 2 a second from 105 to 99, then 1 a second to 54.
        check.due("coolTime(0)", hot.coolTime(0), 3 + 45);
    }

    private static void nothingChanges(Check check) {
        check.part("forecasts");
        StarterBay bay = Bays.running(104);
        bay.startHeat(0);
        bay.coolTime(0);
        bay.runTime(0);
        bay.longestRamp(0);
        check.due("motor(0, 6)", bay.motor(0, 6), 48);
        check.due("motor(0, 5)", bay.motor(0, 5), 3);
        check.due("motor(0, 1)", bay.motor(0, 1), 2);
        check.due("count(5)", bay.count(5), 2);
        check.due("count(15)", bay.count(15), 2);
        check.due("count(16)", bay.count(16), 3);
    }

    private static void count(Check check) {
        check.part("promise 27");
        StarterBay bay = new StarterBay();
        check.due("count(-1)", bay.count(-1), Bays.B);
        check.due("count(18)", bay.count(18), Bays.B);
        for (int number = 0; number < 6; number++) {
            bay.addMotor(10, 3, 2, 60000);
        }
        bay.request(0);
        bay.pass(3);
        bay.request(1);
        bay.pass(1);
        bay.losePhases(1, 1);
        bay.request(2);
        bay.pass(1);
        for (int number = 3; number < 6; number++) {
            bay.losePhases(number, 2);
            bay.request(number);
        }
        bay.setLimit(444);
        bay.setFan(true);
        Bays.read(bay, "1 stop 6;2 stop 6");
        bay.stop(1);
        // 0 is running, 1 is tripped, 2 is starting, the other three wait.
        int[] due = {6, 3, 1, 1, 1, 5, 444, 1, 1, 2, 0};
        for (int what = 0; what < due.length; what++) {
            check.due("count(" + what + ")", bay.count(what), due[what]);
        }
        for (int what = 0; what < 2; what++) {
            int sum = 0;
            for (int number = 0; number < 6; number++) {
                sum += bay.account(number, what);
            }
            check.due("count(" + (11 + what) + ")", bay.count(11 + what), sum);
        }
        // 63 and 10 + 10 of the motor 0, and 4 each of the others that have started.
        check.due("count(11)", bay.count(11), 63 + 20 + 4 + 4);
        check.due("count(13)", bay.count(13), bay.count(11) - bay.count(12));
        check.due("count(14)", bay.count(14), 10 + 14);
        check.due("count(15)", bay.count(15), 5);
        check.due("count(16)", bay.count(16), 4);
        check.due("count(17)", bay.count(17), 17);
        bay.pass(3);
        check.due("count(9)", bay.count(9), 0);
        check.due("count(10)", bay.count(10), 2);
    }

    private static void countOfEightMotors(Check check) {
        check.part("promise 27, eight motors");
        StarterBay bay = new StarterBay();
        for (int number = 0; number < 8; number++) {
            bay.addMotor(10, 2, 2, 1000);
            bay.request(number);
        }
        int[] due = {8, 8, 0, 0, 0};
        for (int what = 0; what < due.length; what++) {
            check.due("count(" + what + ")", bay.count(what), due[what]);
        }
        check.due("pass(8)", bay.pass(8), 8);
        bay.pass(1);
        check.due("count(3)", bay.count(3), 8);
        check.due("count(14)", bay.count(14), 80);
        // Each has taken in 50, and 10 for each second in which it ran: 7 down to 0.
        check.due("count(11)", bay.count(11), 8 * 50 + 10 * 28);
        check.due("count(13)", bay.count(13), bay.count(11) - bay.count(12));
        check.due("queue(0)", bay.queue(0), Bays.N);
    }

    private static void countAfterUndo(Check check) {
        check.part("promise 27, after undo");
        StarterBay bay = new StarterBay();
        bay.keep();
        bay.addMotor(10, 2, 2, 1000);
        bay.request(0);
        bay.pass(1);
        bay.restore();
        for (int what = 0; what <= 15; what++) {
            check.due("count(" + what + ")", bay.count(what), what == 6 ? 500 : 0);
        }
        check.due("motor(0, 0)", bay.motor(0, 0), Bays.U);
        check.due("queue(0)", bay.queue(0), Bays.N);
    }
}
