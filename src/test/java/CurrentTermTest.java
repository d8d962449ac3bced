/** The sentences under CURRENT. */
public final class CurrentTermTest {
    private static final String STARTING = "A motor that is starting draws in the second k of its ramp (counted from 0) rated * "
            + "factor * (k + 1) / ramp, rounded up; so in the last one rated * factor, which is its peak.";
    private static final String START_HEAT = "The start heat of a motor is the sum, over all seconds of its ramp, of current * "
            + "current / 10, each rounded down.";

    public static void main(String[] args) {
        Check.all(CurrentTermTest.class);
    }

    // The least current that is not below peak * part / parts: rounded up without a division.
    private static int roundedUp(int peak, int part, int parts) {
        int current = 0;
        while (current * parts < peak * part) {
            current++;
        }
        return current;
    }

    @Sentence(of = "CURRENT", says = STARTING)
    static void eachSecondOfARamp(Check check) {
        int[][] motors = {{1, 2, 2}, {1, 30, 2}, {1, 7, 3}, {7, 3, 2}, {10, 4, 5}, {33, 13, 3}, {100, 2, 6}, {100, 3, 6},
            {99, 3, 6}, {5, 30, 6}, {10, 5, 2}};
        for (int[] motor : motors) {
            StarterBay bay = new StarterBay();
            bay.addMotor(motor[0], motor[1], motor[2], 60000);
            bay.setLimit(2000);
            bay.request(0);
            int peak = motor[0] * motor[2];
            int takenIn = 0;
            for (int second = 0; second < motor[1]; second++) {
                int due = roundedUp(peak, second + 1, motor[1]);
                if (second > 0) {
                    check.due("motor(0, 10) in the second " + second, bay.motor(0, 10), due);
                    check.due("count(14) in the second " + second, bay.count(14), due);
                }
                bay.pass(1);
                takenIn += due * due / 10;
                check.due("account(0, 0) behind the second " + second, bay.account(0, 0), takenIn);
            }
            check.due("motor(0, 5)", bay.motor(0, 5), 3);
        }
    }

    @Sentence(of = "CURRENT", says = STARTING)
    static void roundedUpAndThePeak(Check check) {
        // 20 A in 3 seconds: 6.7, 13.3 and 20, the last of which is not rounded.
        StarterBay bay = new StarterBay();
        bay.addMotor(10, 3, 2, 1000);
        bay.request(0);
        bay.pass(1);
        check.due("account(0, 0): 7 A", bay.account(0, 0), 4);
        check.due("motor(0, 10)", bay.motor(0, 10), 14);
        bay.pass(1);
        check.due("motor(0, 10) in the last second", bay.motor(0, 10), 20);
        bay.pass(1);
        check.due("motor(0, 10) behind it", bay.motor(0, 10), 10);
        // 2 A in 30 seconds: 1 A up to the half, then 2 A.
        StarterBay slow = new StarterBay();
        slow.addMotor(1, 30, 2, 100);
        slow.request(0);
        slow.pass(14);
        check.due("motor(0, 8)", slow.motor(0, 8), 14);
        check.due("motor(0, 10) at 15 of 30", slow.motor(0, 10), 1);
        slow.pass(1);
        check.due("motor(0, 10) at 16 of 30", slow.motor(0, 10), 2);
    }

    @Sentence(of = "CURRENT", says = "A motor that is running draws its rated current, or, if any phase is lost, "
            + "rated * 3 / 2, rounded down.")
    static void running(Check check) {
        int[] rated = {1, 2, 3, 4, 5, 99, 100};
        int[] withLoss = {1, 3, 4, 6, 7, 148, 150};
        for (int place = 0; place < rated.length; place++) {
            StarterBay bay = new StarterBay();
            Bays.run(bay, rated[place], 60000);
            check.due("motor(0, 5)", bay.motor(0, 5), 3);
            check.due("motor(0, 10) of " + rated[place], bay.motor(0, 10), rated[place]);
            for (int lost = 1; lost <= 7; lost++) {
                bay.losePhases(0, lost);
                check.due("motor(0, 10) of " + rated[place] + " without " + lost, bay.motor(0, 10), withLoss[place]);
                check.due("count(14)", bay.count(14), withLoss[place]);
            }
            int takenIn = bay.account(0, 0);
            bay.pass(1);
            check.due("account(0, 0)", bay.account(0, 0), takenIn + 2 * (withLoss[place] * withLoss[place] / 10));
            bay.losePhases(0, 0);
            check.due("motor(0, 10) when it is mended", bay.motor(0, 10), rated[place]);
        }
    }

    @Sentence(of = "CURRENT", says = "Others draw nothing.")
    static void others(Check check) {
        int[] modes = {0, 1, 4};
        for (int mode : modes) {
            for (int lost = 0; lost <= 1; lost++) {
                StarterBay bay = new StarterBay();
                Bays.inMode(bay, mode);
                bay.losePhases(0, lost);
                check.due("motor(0, 10) in the mode " + mode, bay.motor(0, 10), 0);
                check.due("count(14) in the mode " + mode, bay.count(14), 0);
                bay.setLimit(10);
                int takenIn = bay.account(0, 0);
                bay.pass(60);
                check.due("motor(0, 5)", bay.motor(0, 5), mode);
                check.due("account(0, 0) in the mode " + mode, bay.account(0, 0), takenIn);
            }
        }
    }

    @Sentence(of = "CURRENT", says = START_HEAT)
    static void startHeat(Check check) {
        // 1 and 2 A: 0.1 and 0.4. 3 and 6 A: 0.9 and 3.6, not 4. 5 and 10 A: 2.5 and 10. 7, 14 and 20 A: 4.9, 19.6 and 40.
        int[][] motors = {{1, 2, 2, 0}, {3, 2, 2, 3}, {5, 2, 2, 12}, {10, 3, 2, 63}, {100, 2, 2, 5000}, {10, 5, 2, 86},
            {100, 30, 6, 40 * 9455}};
        for (int[] motor : motors) {
            StarterBay bay = new StarterBay();
            bay.addMotor(motor[0], motor[1], motor[2], 100);
            check.due("startHeat(0) of " + motor[0] + " A", bay.startHeat(0), motor[3]);
        }
    }

    @Sentence(of = "CURRENT", says = START_HEAT)
    static void startHeatIsWhatARampTakesIn(Check check) {
        int[][] motors = {{3, 2, 2}, {7, 30, 6}, {33, 13, 3}, {100, 3, 6}, {2, 29, 5}};
        for (int[] motor : motors) {
            StarterBay bay = new StarterBay();
            bay.addMotor(motor[0], motor[1], motor[2], 60000);
            bay.setLimit(2000);
            bay.request(0);
            bay.pass(motor[1]);
            check.due("motor(0, 5)", bay.motor(0, 5), 3);
            check.due("account(0, 0)", bay.account(0, 0), bay.startHeat(0));
        }
    }

    @Sentence(of = "CURRENT", says = "Its credit is its limit of heat minus the heat that it holds (it can be negative).")
    static void credit(Check check) {
        StarterBay bay = Bays.running(105);
        int[] heat = {48, 56, 64, 72, 79, 86, 93, 99, 105};
        for (int held : heat) {
            check.due("motor(0, 6)", bay.motor(0, 6), held);
            check.due("motor(0, 12)", bay.motor(0, 12), 105 - held);
            bay.pass(1);
        }
        StarterBay hot = Bays.hot();
        check.due("motor(0, 6)", hot.motor(0, 6), 105);
        check.due("motor(0, 3)", hot.motor(0, 3), 104);
        check.due("motor(0, 12): negative, told as 0", hot.motor(0, 12), 0);
        // A start takes 50; the heat falls by 2 a second down to 99, and by 1 then: the credit counts from -1.
        check.due("coolTime(0)", hot.coolTime(0), 3 + 45);
    }
}
