/** Promises 23 to 27. */
public final class ForecastTest {
    private static final String COUNT = "`what`: 0 for the number of motors, 1 to 4 for those that are waiting, starting, running, "
            + "tripped, 5 for the clock, 6 for the limit of the bay, 7 for the fan (1 on, 0 off), 8 for the reason, 9 for the "
            + "items that are left, 10 for all items that were ever refused, 11 for the heat that all have taken in, 12 for what "
            + "all have given off, 13 for what all hold, 14 for what all draw in the second that comes, if no mode changes ahead "
            + "of this, 15 for all events there have been, 16 for the states in the history, 17 for the length of the text";
    private static final String COOL = "Tells how long a motor has to stand until its credit is at least its start heat, if it takes "
            + "in no heat, and the fan stays as it is.";
    private static final String COOL_RETURNS = "Returns the least number of seconds, 0 to 999; UNKNOWN; NONE if there is none.";
    private static final String RUN = "Tells how long a motor can run from now on, with no phase lost, if the fan stays as it is.";
    private static final String RUN_RETURNS = "Returns the number of the second, 1 to 999, in which it would trip for heat if it were "
            + "running from the first one on; UNKNOWN; NONE if there is none.";
    private static final String RAMP = "Finds the longest ramp with which the start heat of a motor would be at most its credit.";
    private static final String RAMP_RETURNS = "Returns the ramp, 2 to 30; UNKNOWN; NONE if there is none.";

    public static void main(String[] args) {
        Check.all(ForecastTest.class);
    }

    @Sentence(of = "Promise 23", says = {"`motor`: the motor", "Returns its start heat; UNKNOWN."})
    static void startHeat(Check check) {
        StarterBay bay = new StarterBay();
        check.due("startHeat(0)", bay.startHeat(0), Bays.U);
        bay.addMotor(1, 2, 2, 100);
        bay.addMotor(10, 3, 2, 100);
        bay.addMotor(100, 30, 6, 100);
        check.due("startHeat(-1)", bay.startHeat(-1), Bays.U);
        check.due("startHeat(3)", bay.startHeat(3), Bays.U);
        check.due("startHeat(0)", bay.startHeat(0), 0);
        // 7, 14 and 20 A, each rounded up; 4.9, 19.6 and 40, each rounded down.
        check.due("startHeat(1)", bay.startHeat(1), 4 + 19 + 40);
        // 20, 40 .. 600 A: 40 times the sum of the squares up to 30.
        check.due("startHeat(2)", bay.startHeat(2), 40 * 9455);
    }

    @Sentence(of = "Promise 23", says = {"`motor`: the motor", "Returns its start heat; UNKNOWN."})
    static void startHeatInEachMode(Check check) {
        for (int mode = 0; mode <= 4; mode++) {
            StarterBay bay = new StarterBay();
            Bays.inMode(bay, mode);
            bay.losePhases(0, 1);
            check.due("startHeat(0) in the mode " + mode, bay.startHeat(0), 1 + 6 + 14 + 25 + 40);
        }
    }

    @Sentence(of = "Promise 24", says = {COOL, COOL_RETURNS})
    static void coolTimeIsHowLongItTakes(Check check) {
        for (int fan = 0; fan <= 1; fan++) {
            StarterBay bay = new StarterBay();
            Bays.run(bay, 100, 6000);
            bay.setFan(fan == 1);
            int heat = 4762;
            int due = 0;
            for (; heat > 1000; due++) {
                heat -= heat * (fan == 1 ? 50 : 20) / 1000;
            }
            check.due("coolTime(0), running, with the fan " + fan, bay.coolTime(0), due);
            bay.losePhases(0, 1);
            check.due("coolTime(0) without a phase", bay.coolTime(0), due);
            bay.losePhases(0, 0);
            bay.stop(0);
            check.due("coolTime(0), stopped", bay.coolTime(0), due);
            bay.setLimit(10);
            bay.request(0);
            check.due("coolTime(0), waiting", bay.coolTime(0), due);
            for (int left = due; left > 0; left--) {
                check.due("whyNot(0) with " + left + " left", bay.whyNot(0), 2);
                check.due("coolTime(0)", bay.coolTime(0), left);
                bay.pass(1);
            }
            check.due("coolTime(0) in the end", bay.coolTime(0), 0);
            check.due("whyNot(0) in the end", bay.whyNot(0), 3);
        }
    }

    @Sentence(of = "Promise 24", says = {"`motor`: the motor", COOL_RETURNS})
    static void noneAndTheLeastCoolTime(Check check) {
        StarterBay bay = new StarterBay();
        check.due("coolTime(0)", bay.coolTime(0), Bays.U);
        bay.addMotor(100, 2, 2, 5000);
        bay.addMotor(100, 2, 2, 4999);
        check.due("coolTime(-1)", bay.coolTime(-1), Bays.U);
        check.due("coolTime(2)", bay.coolTime(2), Bays.U);
        check.due("coolTime(0): its credit is just its start heat", bay.coolTime(0), 0);
        check.due("coolTime(1): even a cold one has one too little", bay.coolTime(1), Bays.N);
        // Heat below 50 stays at the rate 20, below 20 at the rate 50.
        for (int limit = 5018; limit <= 5050; limit++) {
            StarterBay hot = new StarterBay();
            Bays.run(hot, 100, limit);
            check.yes("coolTime(0) at the limit " + limit, (hot.coolTime(0) == Bays.N) == (limit < 5049));
            hot.setFan(true);
            check.yes("with the fan", (hot.coolTime(0) == Bays.N) == (limit < 5019));
        }
    }

    @Sentence(of = "Promise 24", says = {"`motor`: the motor", COOL_RETURNS})
    static void theLongestCoolTime(Check check) {
        for (int limit = 100; limit <= 106; limit++) {
            StarterBay bay = Bays.running(limit);
            bay.pass(1);
            check.due("motor(0, 6)", bay.motor(0, 6), 56);
            check.due("coolTime(0) at " + limit, bay.coolTime(0), 56 - (limit - 50));
        }
        // No motor comes near 999 seconds; this one has to go from 8892 down to 50, where the rate 20 nearly ends.
        StarterBay bay = new StarterBay();
        Bays.run(bay, 100, 5050);
        bay.losePhases(0, 1);
        bay.pass(1);
        int due = 0;
        for (int heat = 8892; heat > 50; due++) {
            heat -= heat * 20 / 1000;
        }
        check.due("motor(0, 6)", bay.motor(0, 6), 8892);
        check.due("coolTime(0)", bay.coolTime(0), due);
        Bays.passLong(bay, due - 1);
        check.due("coolTime(0) in the end", bay.coolTime(0), 1);
        bay.pass(1);
        check.due("coolTime(0) in the end", bay.coolTime(0), 0);
    }

    @Sentence(of = "Promise 25", says = {RUN, RUN_RETURNS})
    static void runTimeIsWhenItTrips(Check check) {
        StarterBay bay = Bays.running(104);
        for (int left = 8; left >= 1; left--) {
            check.due("runTime(0)", bay.runTime(0), left);
            check.due("motor(0, 5)", bay.motor(0, 5), 3);
            bay.pass(1);
        }
        check.due("motor(0, 11)", bay.motor(0, 11), 2);
        // 105 + 10 - 4 is above the limit again.
        check.due("runTime(0) of one that holds too much", bay.runTime(0), 1);
        for (int limit = 105; limit <= 250; limit++) {
            StarterBay one = Bays.running(limit);
            int due = one.runTime(0);
            int seconds = 0;
            while (seconds < 120 && one.motor(0, 5) == 3) {
                one.pass(1);
                seconds++;
            }
            check.due("runTime(0) at " + limit, due, one.motor(0, 5) == 4 ? seconds : Bays.N);
        }
    }

    @Sentence(of = "Promise 25", says = {RUN, RUN_RETURNS})
    static void runningFromTheFirstSecondOn(Check check) {
        // Neither the mode nor a lost phase plays a part: cold, it takes in 10 a second.
        int cold = 0;
        for (int heat = 0; heat <= 104; cold++) {
            heat += 10;
            heat -= heat * 40 / 1000;
        }
        StarterBay bay = new StarterBay();
        bay.addMotor(10, 2, 2, 104);
        check.due("runTime(0), stopped", bay.runTime(0), cold);
        bay.losePhases(0, 7);
        check.due("runTime(0), stopped, without phases", bay.runTime(0), cold);
        bay.request(0);
        check.due("runTime(0), waiting", bay.runTime(0), cold);
        bay.losePhases(0, 0);
        bay.pass(1);
        check.due("motor(0, 6)", bay.motor(0, 6), 10);
        check.due("runTime(0), starting", bay.runTime(0), cold - 1);
        bay.losePhases(0, 1);
        check.due("runTime(0), tripped", bay.runTime(0), cold - 1);
        StarterBay running = Bays.running(104);
        running.losePhases(0, 1);
        check.due("runTime(0), running without a phase", running.runTime(0), 8);
    }

    @Sentence(of = "Promise 25", says = {RUN, RUN_RETURNS})
    static void runTimeWithTheFan(Check check) {
        StarterBay bay = Bays.running(104);
        bay.setFan(true);
        int due = 0;
        for (int heat = 48; heat <= 104; due++) {
            heat += 10;
            heat -= heat * 70 / 1000;
        }
        check.due("runTime(0) with the fan", bay.runTime(0), due);
        check.yes("it is longer than without", due > 8);
        bay.pass(due - 1);
        check.due("motor(0, 5)", bay.motor(0, 5), 3);
        bay.pass(1);
        check.due("motor(0, 5)", bay.motor(0, 5), 4);
        StarterBay never = new StarterBay();
        never.addMotor(10, 2, 2, 200);
        check.yes("it trips without the fan", never.runTime(0) > 0);
        never.setFan(true);
        check.due("runTime(0): with the fan it never trips", never.runTime(0), Bays.N);
    }

    @Sentence(of = "Promise 25", says = {"`motor`: the motor", RUN_RETURNS})
    static void runTimeOutOfRange(Check check) {
        StarterBay bay = new StarterBay();
        check.due("runTime(0)", bay.runTime(0), Bays.U);
        bay.addMotor(3, 2, 2, 100);
        check.due("runTime(-1)", bay.runTime(-1), Bays.U);
        check.due("runTime(1)", bay.runTime(1), Bays.U);
        check.due("runTime(0): 3 A take in nothing", bay.runTime(0), Bays.N);
        StarterBay fast = new StarterBay();
        fast.addMotor(100, 2, 2, 100);
        check.due("runTime(0): 1000 in the first second", fast.runTime(0), 1);
        // No motor comes near 999 seconds: 1000 a second end at 24000, where 40 of 1000 are given off.
        int due = 0;
        for (int heat = 0; heat <= 23999; due++) {
            heat += 1000;
            heat -= heat * 40 / 1000;
        }
        for (int limit = 23999; limit <= 24000; limit++) {
            StarterBay slow = new StarterBay();
            slow.addMotor(100, 2, 2, limit);
            check.due("runTime(0) at " + limit, slow.runTime(0), limit == 23999 ? due : Bays.N);
        }
    }

    @Sentence(of = "Promise 26", says = {RAMP, RAMP_RETURNS})
    static void longestRampByCredit(Check check) {
        int[] rated = {1, 5, 10, 14, 23};
        int[] factors = {2, 3, 6};
        for (int current : rated) {
            for (int factor : factors) {
                for (int limit = 100; limit <= 12000; limit += limit < 300 ? 1 : 97) {
                    StarterBay bay = new StarterBay();
                    bay.addMotor(current, 2, factor, limit);
                    check.due("longestRamp(0) of " + current + " * " + factor + " at " + limit, bay.longestRamp(0),
                            plainLongestRamp(current * factor, limit));
                }
            }
        }
    }

    private static int plainLongestRamp(int peak, int credit) {
        int longest = Bays.N;
        for (int ramp = 2; ramp <= 30; ramp++) {
            int heat = 0;
            for (int k = 1; k <= ramp; k++) {
                int current = (int) Math.ceil((double) peak * k / ramp);
                heat += current * current / 10;
            }
            longest = heat <= credit ? ramp : longest;
        }
        return longest;
    }

    @Sentence(of = "Promise 26", says = {"`motor`: the motor", RAMP_RETURNS})
    static void longestRampAtItsEnds(Check check) {
        StarterBay bay = new StarterBay();
        check.due("longestRamp(0)", bay.longestRamp(0), Bays.U);
        bay.addMotor(10, 2, 2, 60000);
        bay.addMotor(10, 2, 5, 100);
        check.due("longestRamp(-1)", bay.longestRamp(-1), Bays.U);
        check.due("longestRamp(2)", bay.longestRamp(2), Bays.U);
        check.due("longestRamp(0): there are none above 30", bay.longestRamp(0), 30);
        // 25 and 50 A: 62 + 250 are above 100.
        check.due("longestRamp(1)", bay.longestRamp(1), Bays.N);
        // Peaks of 30 A take in 112 in 2 seconds and 140 in 3; 1 second is no ramp, though it took in but 90.
        int[] limits = {111, 112, 139, 140};
        int[] due = {Bays.N, 2, 2, 3};
        for (int place = 0; place < limits.length; place++) {
            StarterBay one = new StarterBay();
            one.addMotor(10, 30, 3, limits[place]);
            check.due("longestRamp(0) at " + limits[place], one.longestRamp(0), due[place]);
        }
    }

    @Sentence(of = "Promise 26", says = {RAMP, RAMP_RETURNS})
    static void theHeatThatIsHeldCounts(Check check) {
        StarterBay bay = Bays.running(200);
        check.due("motor(0, 12)", bay.motor(0, 12), 152);
        check.due("longestRamp(0)", bay.longestRamp(0), plainLongestRamp(20, 152));
        check.yes("the limit would give another", plainLongestRamp(20, 152) != plainLongestRamp(20, 200));
        StarterBay hot = Bays.hot();
        check.due("longestRamp(0) of a negative credit", hot.longestRamp(0), Bays.N);
        // Its own ramp plays no part.
        for (int ramp = 2; ramp <= 30; ramp += 7) {
            StarterBay one = new StarterBay();
            one.addMotor(10, ramp, 2, 300);
            check.due("longestRamp(0) with a ramp of " + ramp, one.longestRamp(0), plainLongestRamp(20, 300));
        }
    }

    @Sentence(of = "ERRORS", says = "Ahead of the calls `startHeat`, `coolTime`, `runTime`, `longestRamp`, `count` the interface "
            + "says: ---- forecasts; nothing changes.")
    static void nothingChanges(Check check) {
        Twins.Call[] calls = {bay -> bay.startHeat(0), bay -> bay.coolTime(0), bay -> bay.runTime(0), bay -> bay.longestRamp(0),
            bay -> bay.count(5)};
        int[] due = {50, 4, 7, Bays.N, 45};
        for (int place = 0; place < calls.length; place++) {
            Twins.stays(check, "the forecast " + place, bay -> {
                Bays.run(bay, 10, 102);
                bay.pass(6);
                bay.stop(0);
                bay.pass(35);
                bay.request(0);
                bay.pass(2);
                bay.keep();
            }, calls[place], due[place]);
        }
    }

    @Sentence(of = "Promise 27", says = COUNT)
    static void count(Check check) {
        StarterBay bay = new StarterBay();
        for (int number = 0; number < 6; number++) {
            bay.addMotor(10, 3, 2, 60000);
        }
        bay.request(0);
        bay.pass(3);
        bay.request(1);
        bay.pass(1);
        bay.losePhases(1, 1);
        bay.request(2);
        bay.pass(1);
        for (int number = 3; number < 6; number++) {
            bay.losePhases(number, 2);
            bay.request(number);
        }
        bay.setLimit(444);
        bay.setFan(true);
        Bays.read(bay, "1 stop 6;2 stop 6");
        bay.stop(1);
        // 0 is running, 1 is tripped, 2 is starting, the other three wait.
        // The motor 0 has taken in 4, 19, 40, 10 and 10, the others that have started 4 each; 63, 71 and 79 gave off 2, 2 and 3.
        int[] due = {6, 3, 1, 1, 1, 5, 444, 1, 1, 2, 0, 83 + 4 + 4, 7, 84, 10 + 14, 5, 4, 17};
        for (int what = 0; what < due.length; what++) {
            check.due("count(" + what + ")", bay.count(what), due[what]);
        }
        checkSums(check, bay);
        bay.pass(3);
        check.due("count(9)", bay.count(9), 0);
        check.due("count(10)", bay.count(10), 2);
        checkSums(check, bay);
    }

    private static void checkSums(Check check, StarterBay bay) {
        int[] sums = new int[4];
        for (int number = 0; number < bay.count(0); number++) {
            sums[0] += bay.account(number, 0);
            sums[1] += bay.account(number, 1);
            sums[2] += bay.motor(number, 6);
            sums[3] += bay.motor(number, 10);
        }
        for (int place = 0; place < 4; place++) {
            check.due("count(" + (11 + place) + ")", bay.count(11 + place), sums[place]);
        }
        check.yes("there is something to be summed", sums[0] > 0 && sums[1] > 0 && sums[2] > 0 && sums[3] > 0);
        check.due("what all hold", bay.count(13), bay.count(11) - bay.count(12));
    }

    @Sentence(of = "Promise 27", says = COUNT)
    static void countOfEightMotors(Check check) {
        StarterBay bay = new StarterBay();
        Bays.addSmall(bay, 8);
        for (int number = 0; number < 8; number++) {
            bay.request(number);
        }
        int[] due = {8, 8, 0, 0, 0};
        for (int what = 0; what < due.length; what++) {
            check.due("count(" + what + ")", bay.count(what), due[what]);
        }
        bay.pass(8);
        int[] then = {8, 0, 1, 7, 0, 8};
        for (int what = 0; what < then.length; what++) {
            check.due("count(" + what + ") then", bay.count(what), then[what]);
        }
        check.due("count(14): seven that are running, and 20 of a start", bay.count(14), 90);
        bay.pass(1);
        check.due("count(14)", bay.count(14), 80);
        // Each has taken in 50, and 10 for each second in which it ran: 7 down to 0.
        check.due("count(11)", bay.count(11), 8 * 50 + 10 * 28);
        checkSums(check, bay);
        check.due("count(15)", bay.count(15), 16);
    }

    @Sentence(of = "Promise 27", says = COUNT)
    static void refusedItemsAndEventsOfAllTimes(Check check) {
        StarterBay bay = new StarterBay();
        Bays.addSmall(bay, 1);
        Bays.typeAll(bay, "0 stop 0;0 start 0;0 stop 0;0 reset 7");
        for (int round = 1; round <= 20; round++) {
            bay.readTimetable();
            bay.pass(1);
            check.due("count(10): those of earlier timetables count", bay.count(10), 2 * round);
            check.due("count(15): those that are kept no longer count", bay.count(15), round);
        }
    }

    @Sentence(of = "Promise 27", says = "Returns the number; BAD_VALUE.")
    static void countOutOfRange(Check check) {
        StarterBay bay = new StarterBay();
        int[] outside = {Integer.MIN_VALUE, -1, 18, 19, Integer.MAX_VALUE};
        for (int what : outside) {
            check.due("count(" + what + ")", bay.count(what), Bays.B);
        }
        check.due("count(0)", bay.count(0), 0);
        check.due("count(17)", bay.count(17), 0);
    }
}
