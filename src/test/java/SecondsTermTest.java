/** The sentences under SECONDS. */
public final class SecondsTermTest {
    private static final String ORDER = "When a second passes, the following happens in this order:";
    private static final String ITEMS = "The items of the timetable that are due at this time are carried out, in their order.";
    private static final String FIRST = "The first motor in the queue that can start (if there is any) starts: it is starting "
            + "then, with the second 0 of its ramp.";
    private static final String TAKES_IN = "For each motor, by its number: it takes in the heat current * current / 10, rounded "
            + "down (twice this rounded number if any phase is lost).";
    private static final String GIVES_OFF = "Then it gives off heat * rate / 1000, rounded down, of the heat that it holds "
            + "then; the rate is 40 if it turns, otherwise 20, and 30 more if the fan is on.";
    private static final String TRIPS_FOR_HEAT =
            "Then, if it turns: if it holds more than its limit, it trips (for the reason 2).";
    private static final String TRIPS_FOR_PHASES = "Otherwise, if it is running, a phase is lost (whichever it is), and this is "
            + "the third second of this one behind the other (as this point finds it each time; a loss that is mended and comes "
            + "again between two seconds goes on), it trips (for the reason 4).";

    public static void main(String[] args) {
        Check.all(SecondsTermTest.class);
    }

    @Sentence(of = "SECONDS", says = ORDER)
    static void itemsAreAheadOfTheStart(Check check) {
        StarterBay requested = new StarterBay();
        Bays.addSmall(requested, 1);
        Bays.read(requested, "0 start 0");
        check.due("pass(1): it starts in the second in which it is requested", requested.pass(1), 1);
        check.due("account(0, 5): it has not waited in point 3", requested.account(0, 5), 0);
        String[] texts = {"0 stop 0", "0 lose 0 1"};
        for (String text : texts) {
            StarterBay bay = new StarterBay();
            Bays.addSmall(bay, 1);
            bay.request(0);
            Bays.read(bay, text);
            check.due("pass(1) with " + text, bay.pass(1), 0);
        }
    }

    @Sentence(of = "SECONDS", says = ORDER)
    static void theStartIsAheadOfTheHeat(Check check) {
        StarterBay bay = new StarterBay();
        Bays.addSmall(bay, 2);
        bay.request(0);
        bay.pass(1);
        check.due("account(0, 0): the second in which it starts counts", bay.account(0, 0), 10);
        check.due("account(0, 4)", bay.account(0, 4), 1);
        // With 51 of 100 held when the second begins, a start of 50 is too much; the 1 that is given off comes too late.
        StarterBay warm = Bays.running(100);
        warm.pass(1);
        warm.stop(0);
        warm.pass(5);
        warm.request(0);
        check.due("motor(0, 6)", warm.motor(0, 6), 51);
        check.due("pass(1)", warm.pass(1), 0);
        check.due("motor(0, 6)", warm.motor(0, 6), 50);
        check.due("pass(1)", warm.pass(1), 1);
    }

    @Sentence(of = "SECONDS", says = ORDER)
    static void theFanOfAnItemCountsInItsSecond(Check check) {
        StarterBay bay = new StarterBay();
        Bays.run(bay, 100, 60000);
        bay.stop(0);
        Bays.read(bay, "0 fan 1");
        bay.pass(1);
        check.due("motor(0, 6)", bay.motor(0, 6), 4762 - 238);
    }

    @Sentence(of = "SECONDS", says = ITEMS)
    static void dueItemsInTheirOrder(Check check) {
        String[] texts = {"0 fan 1;0 fan 0", "0 fan 0;0 fan 1", "0 fan 0;0 fan 1;0 fan 0"};
        int[] fan = {0, 1, 0};
        for (int place = 0; place < texts.length; place++) {
            StarterBay bay = new StarterBay();
            Bays.read(bay, texts[place]);
            bay.pass(1);
            check.due("count(7) by " + texts[place], bay.count(7), fan[place]);
            check.due("count(9) by " + texts[place], bay.count(9), 0);
        }
        StarterBay bay = new StarterBay();
        Bays.addSmall(bay, 1);
        Bays.read(bay, "0 start 0;0 stop 0;0 stop 0;0 start 0;0 lose 0 1");
        check.due("pass(1)", bay.pass(1), 0);
        check.due("motor(0, 5)", bay.motor(0, 5), 1);
        check.due("count(10): the second stop", bay.count(10), 1);
        check.due("count(15): the first stop", bay.count(15), 1);
    }

    @Sentence(of = "SECONDS", says = ITEMS)
    static void thoseOfTheNextSecondAreLeft(Check check) {
        StarterBay bay = new StarterBay();
        Bays.read(bay, "0 fan 1;1 fan 0;1 fan 1;3 fan 0");
        int[] left = {3, 1, 1, 0};
        int[] fan = {1, 1, 1, 0};
        for (int second = 0; second < 4; second++) {
            bay.pass(1);
            check.due("count(9) behind the second " + second, bay.count(9), left[second]);
            check.due("count(7) behind the second " + second, bay.count(7), fan[second]);
        }
    }

    @Sentence(of = "SECONDS", says = FIRST)
    static void theFirstThatCanStarts(Check check) {
        for (int mended = 0; mended < 3; mended++) {
            StarterBay bay = new StarterBay();
            Bays.addSmall(bay, 3);
            for (int number = 0; number < 3; number++) {
                bay.losePhases(number, 1);
                bay.request(number);
            }
            check.due("pass(1): there is none", bay.pass(1), 0);
            for (int number = mended; number < 3; number++) {
                bay.losePhases(number, 0);
            }
            check.due("pass(1)", bay.pass(1), 1);
            for (int number = 0; number < 3; number++) {
                check.due("motor(" + number + ", 5)", bay.motor(number, 5), number == mended ? 2 : 1);
            }
            check.due("motor(it, 8)", bay.motor(mended, 8), 1);
            check.due("account(it, 0): 10 A in the second 0", bay.account(mended, 0), 10);
            check.due("account(it, 2)", bay.account(mended, 2), 1);
        }
    }

    @Sentence(of = "SECONDS", says = FIRST)
    static void aNewStartBeginsAtTheSecondZero(Check check) {
        StarterBay bay = new StarterBay();
        Bays.inMode(bay, 2);
        bay.pass(2);
        check.due("motor(0, 8)", bay.motor(0, 8), 3);
        bay.stop(0);
        bay.request(0);
        check.due("pass(1)", bay.pass(1), 1);
        check.due("motor(0, 8)", bay.motor(0, 8), 1);
        check.due("motor(0, 10)", bay.motor(0, 10), 8);
        check.due("pass(4): it is no start to go on", bay.pass(4), 0);
        check.due("motor(0, 5)", bay.motor(0, 5), 3);
    }

    @Sentence(of = "SECONDS", says = "Only one starts in a second.")
    static void onlyOneStarts(Check check) {
        StarterBay bay = new StarterBay();
        Bays.addSmall(bay, 8);
        for (int number = 0; number < 8; number++) {
            bay.request(number);
        }
        for (int second = 0; second < 8; second++) {
            check.due("pass(1)", bay.pass(1), 1);
            check.due("count(1)", bay.count(1), 7 - second);
            check.due("motor(" + second + ", 5)", bay.motor(second, 5), 2);
        }
        check.due("pass(1): there is no more", bay.pass(1), 0);
        for (int number = 0; number < 8; number++) {
            check.due("account(" + number + ", 5)", bay.account(number, 5), number);
        }
    }

    @Sentence(of = "SECONDS", says = "Those ahead of it in the queue are passed over, each once.")
    static void thoseAheadArePassedOver(Check check) {
        StarterBay bay = new StarterBay();
        Bays.addSmall(bay, 5);
        int[] order = {3, 1, 4, 0, 2};
        for (int place = 0; place < 5; place++) {
            bay.setNeed(order[place], 9 - place);
            bay.request(order[place]);
        }
        bay.losePhases(3, 1);
        bay.losePhases(1, 1);
        check.due("pass(1): the motor 4", bay.pass(1), 1);
        over(check, bay, 0, 1, 0, 1, 0);
        check.due("pass(1): the motor 0", bay.pass(1), 1);
        over(check, bay, 0, 2, 0, 2, 0);
        bay.losePhases(3, 0);
        check.due("pass(1): the motor 3, which is first", bay.pass(1), 1);
        over(check, bay, 0, 2, 0, 2, 0);
        bay.losePhases(2, 1);
        check.due("pass(1): none starts, and none is passed over", bay.pass(1), 0);
        over(check, bay, 0, 2, 0, 2, 0);
    }

    private static void over(Check check, StarterBay bay, int... due) {
        for (int number = 0; number < due.length; number++) {
            check.due("account(" + number + ", 6)", bay.account(number, 6), due[number]);
        }
    }

    @Sentence(of = "SECONDS", says = TAKES_IN)
    static void byTheirNumbers(Check check) {
        StarterBay bay = new StarterBay();
        bay.addMotor(10, 2, 2, 1000);
        bay.addMotor(10, 3, 2, 1000);
        bay.request(1);
        bay.pass(1);
        bay.request(0);
        bay.pass(2);
        // Both ramps end in this second; the later event is that of the higher number.
        check.due("event(1, 1)", bay.event(1, 1), 0);
        check.due("event(0, 1)", bay.event(0, 1), 1);
        for (int event = 0; event < 2; event++) {
            check.due("event(" + event + ", 0)", bay.event(event, 0), 2);
            check.due("event(" + event + ", 2)", bay.event(event, 2), 2);
        }
    }

    @Sentence(of = "SECONDS", says = TAKES_IN)
    static void heatThatIsTakenIn(Check check) {
        // {rated, a second of running, one with a lost phase}: 0.9 and 1.6; 2.5 and 4.9; 1000 and 2250.
        int[][] motors = {{1, 0, 0}, {3, 0, 2}, {5, 2, 8}, {100, 1000, 4500}};
        for (int[] motor : motors) {
            for (int lost = 0; lost <= 7; lost++) {
                StarterBay bay = new StarterBay();
                Bays.run(bay, motor[0], 60000);
                int before = bay.account(0, 0);
                bay.losePhases(0, lost);
                bay.pass(1);
                check.due("account(0, 0) of " + motor[0] + " A without " + lost, bay.account(0, 0),
                        before + (lost == 0 ? motor[1] : motor[2]));
            }
        }
    }

    @Sentence(of = "SECONDS", says = GIVES_OFF)
    static void heatThatIsGivenOff(Check check) {
        // {in the mode 3 or 0, the fan, what is held then}, from 4762 on; a running motor takes in 1000 first.
        int[][] cases = {{3, 0, 5762 - 230}, {3, 1, 5762 - 403}, {0, 0, 4762 - 95}, {0, 1, 4762 - 238}};
        for (int[] one : cases) {
            StarterBay bay = new StarterBay();
            Bays.run(bay, 100, 60000);
            check.due("motor(0, 6) behind the ramp: 1000 - 40 + 4000 - 198", bay.motor(0, 6), 4762);
            if (one[0] == 0) {
                bay.stop(0);
            }
            bay.setFan(one[1] == 1);
            bay.pass(1);
            check.due("motor(0, 6) in the mode " + one[0] + " with the fan " + one[1], bay.motor(0, 6), one[2]);
            check.due("account(0, 1)", bay.account(0, 1), bay.account(0, 0) - one[2]);
        }
    }

    @Sentence(of = "SECONDS", says = GIVES_OFF)
    static void theRateOfEachMode(Check check) {
        // Waiting and tripped motors stand; a starting one turns: 10 - 0, then 50 with 2, or with the fan 3.
        StarterBay waiting = new StarterBay();
        Bays.run(waiting, 100, 60000);
        waiting.stop(0);
        waiting.losePhases(0, 1);
        waiting.request(0);
        waiting.pass(1);
        check.due("motor(0, 6), waiting", waiting.motor(0, 6), 4762 - 95);
        StarterBay tripped = Bays.hot();
        tripped.pass(1);
        check.due("motor(0, 6), tripped", tripped.motor(0, 6), 105 - 2);
        tripped.setFan(true);
        tripped.pass(1);
        check.due("motor(0, 6), tripped, with the fan", tripped.motor(0, 6), 103 - 5);
        for (int fan = 0; fan <= 1; fan++) {
            StarterBay starting = new StarterBay();
            Bays.addSmall(starting, 1);
            starting.setFan(fan == 1);
            starting.request(0);
            starting.pass(2);
            check.due("motor(0, 6), starting", starting.motor(0, 6), fan == 0 ? 48 : 47);
        }
    }

    @Sentence(of = "SECONDS", says = GIVES_OFF)
    static void manySeconds(Check check) {
        StarterBay bay = new StarterBay();
        Bays.run(bay, 90, 60000);
        int heat = bay.motor(0, 6);
        for (int second = 0; second < 150; second++) {
            heat += 810;
            heat -= heat * 40 / 1000;
            bay.pass(1);
            check.due("motor(0, 6)", bay.motor(0, 6), heat);
        }
    }

    @Sentence(of = "SECONDS", says = GIVES_OFF)
    static void roundedDownToNothing(Check check) {
        // A motor of 3 A takes in nothing when it runs; its heat falls until heat * rate is below 1000.
        int[][] cases = {{3, 0, 24}, {3, 1, 14}, {0, 0, 39}, {0, 1, 19}};
        for (int[] one : cases) {
            StarterBay bay = new StarterBay();
            bay.addMotor(3, 2, 6, 1000);
            bay.request(0);
            bay.pass(2);
            check.due("motor(0, 6): 8 + 32 - 1", bay.motor(0, 6), 39);
            if (one[0] == 0) {
                bay.stop(0);
            }
            bay.setFan(one[1] == 1);
            bay.pass(60);
            check.due("motor(0, 6) in the mode " + one[0] + " with the fan " + one[1], bay.motor(0, 6), one[2]);
        }
        StarterBay bay = Bays.running(1000);
        bay.pass(1);
        bay.stop(0);
        bay.pass(6);
        check.due("motor(0, 6): 1 of 50 still goes", bay.motor(0, 6), 50);
        bay.pass(1);
        check.due("motor(0, 6)", bay.motor(0, 6), 49);
        bay.pass(60);
        check.due("motor(0, 6): nothing of 49", bay.motor(0, 6), 49);
    }

    @Sentence(of = "SECONDS", says = TRIPS_FOR_HEAT)
    static void moreThanItsLimit(Check check) {
        // The heat runs 48, 56, 64, 72, 79, 86, 93, 99, 105.
        for (int limit = 104; limit <= 106; limit++) {
            StarterBay bay = Bays.running(limit);
            bay.pass(7);
            check.due("motor(0, 5) with 99 of " + limit, bay.motor(0, 5), 3);
            bay.pass(1);
            check.due("motor(0, 6)", bay.motor(0, 6), 105);
            boolean trips = limit == 104;
            check.due("motor(0, 5) with 105 of " + limit, bay.motor(0, 5), trips ? 4 : 3);
            check.due("motor(0, 11)", bay.motor(0, 11), trips ? 2 : Bays.N);
            check.due("account(0, 3)", bay.account(0, 3), trips ? 1 : 0);
            check.due("event(0, 2)", bay.event(0, 2), trips ? 4 : 2);
            check.due("account(0, 4): the second of the trip counts", bay.account(0, 4), 10);
        }
    }

    @Sentence(of = "SECONDS", says = TRIPS_FOR_HEAT)
    static void whatDoesNotTurnDoesNotTrip(Check check) {
        // 4762 + 4500 - 370, + 4500 - 535: in its second second it trips, and stays far above the limit.
        StarterBay hot = new StarterBay();
        Bays.run(hot, 100, 9000);
        hot.losePhases(0, 1);
        hot.pass(2);
        check.due("motor(0, 6)", hot.motor(0, 6), 12857);
        check.due("motor(0, 11)", hot.motor(0, 11), 2);
        hot.pass(5);
        check.yes("it still holds more than its limit", hot.motor(0, 6) > 9000);
        check.due("account(0, 3): it trips once", hot.account(0, 3), 1);
        check.due("count(15)", hot.count(15), 3);
        StarterBay stopped = Bays.running(60000);
        stopped.stop(0);
        stopped.losePhases(0, 7);
        stopped.pass(60);
        check.due("motor(0, 5), stopped without phases", stopped.motor(0, 5), 0);
        stopped.request(0);
        stopped.pass(60);
        check.due("motor(0, 5), waiting without phases", stopped.motor(0, 5), 1);
        check.due("account(0, 3)", stopped.account(0, 3), 0);
    }

    @Sentence(of = "SECONDS", says = TRIPS_FOR_PHASES)
    static void theThirdSecondOfALoss(Check check) {
        for (int lost = 1; lost <= 7; lost++) {
            StarterBay bay = Bays.running(60000);
            bay.losePhases(0, lost);
            bay.pass(2);
            check.due("motor(0, 5) in the second one", bay.motor(0, 5), 3);
            check.due("account(0, 3)", bay.account(0, 3), 0);
            bay.pass(1);
            check.due("motor(0, 5) in the third one", bay.motor(0, 5), 4);
            check.due("motor(0, 11)", bay.motor(0, 11), 4);
            check.due("account(0, 3)", bay.account(0, 3), 1);
            check.due("event(0, 2)", bay.event(0, 2), 5);
            check.due("event(0, 0)", bay.event(0, 0), 4);
        }
    }

    @Sentence(of = "SECONDS", says = TRIPS_FOR_PHASES)
    static void whicheverPhaseItIs(Check check) {
        StarterBay bay = Bays.running(60000);
        for (int lost = 1; lost <= 4; lost *= 2) {
            check.due("motor(0, 5)", bay.motor(0, 5), 3);
            bay.losePhases(0, lost);
            bay.pass(1);
        }
        check.due("motor(0, 5): another phase each second", bay.motor(0, 5), 4);
    }

    @Sentence(of = "SECONDS", says = TRIPS_FOR_PHASES)
    static void mendedBetweenTwoSeconds(Check check) {
        StarterBay calls = Bays.running(60000);
        calls.losePhases(0, 1);
        calls.pass(2);
        calls.losePhases(0, 0);
        calls.losePhases(0, 1);
        calls.pass(1);
        check.due("motor(0, 5) by calls", calls.motor(0, 5), 4);
        StarterBay items = Bays.running(60000);
        Bays.read(items, "0 lose 0 1;2 lose 0 0;2 lose 0 2");
        items.pass(2);
        check.due("motor(0, 5)", items.motor(0, 5), 3);
        items.pass(1);
        check.due("motor(0, 5) by items of one second", items.motor(0, 5), 4);
    }

    @Sentence(of = "SECONDS", says = TRIPS_FOR_PHASES)
    static void mendedForASecond(Check check) {
        for (int ahead = 1; ahead <= 2; ahead++) {
            StarterBay bay = Bays.running(60000);
            bay.losePhases(0, 1);
            bay.pass(ahead);
            bay.losePhases(0, 0);
            bay.pass(1);
            bay.losePhases(0, 1);
            bay.pass(2);
            check.due("motor(0, 5) in the second one since", bay.motor(0, 5), 3);
            bay.pass(1);
            check.due("motor(0, 5) in the third one since", bay.motor(0, 5), 4);
        }
    }

    @Sentence(of = "SECONDS", says = TRIPS_FOR_PHASES)
    static void onlySecondsOfRunningCount(Check check) {
        StarterBay bay = Bays.running(60000);
        bay.losePhases(0, 1);
        bay.pass(2);
        bay.stop(0);
        bay.losePhases(0, 0);
        bay.request(0);
        bay.pass(2);
        bay.losePhases(0, 1);
        bay.pass(2);
        check.due("motor(0, 5) in the second one of the new run", bay.motor(0, 5), 3);
        bay.pass(1);
        check.due("motor(0, 5) in the third one", bay.motor(0, 5), 4);
        bay.losePhases(0, 0);
        bay.reset(0);
        bay.request(0);
        bay.pass(2);
        bay.losePhases(0, 1);
        bay.pass(2);
        check.due("motor(0, 5) in the second one behind a reset", bay.motor(0, 5), 3);
    }

    @Sentence(of = "SECONDS", says = TRIPS_FOR_PHASES)
    static void heatIsAheadOfPhases(Check check) {
        // 48 + 44 - 3, + 44 - 5, + 44 - 6 = 166 in the third second.
        for (int limit = 165; limit <= 166; limit++) {
            StarterBay bay = Bays.running(limit);
            bay.losePhases(0, 1);
            bay.pass(3);
            check.due("motor(0, 6)", bay.motor(0, 6), 166);
            check.due("motor(0, 11) with 166 of " + limit, bay.motor(0, 11), limit == 165 ? 2 : 4);
            check.due("event(0, 2) with 166 of " + limit, bay.event(0, 2), limit == 165 ? 4 : 5);
            check.due("account(0, 3)", bay.account(0, 3), 1);
            check.due("count(15): it trips once", bay.count(15), 3);
        }
    }

    @Sentence(of = "SECONDS", says = "Otherwise, if it is starting and this was the last second of its ramp, it is running.")
    static void theLastSecondOfTheRamp(Check check) {
        int[] ramps = {2, 3, 29, 30};
        for (int ramp : ramps) {
            StarterBay bay = new StarterBay();
            bay.addMotor(10, ramp, 2, 60000);
            bay.request(0);
            bay.pass(ramp - 1);
            check.due("motor(0, 5) ahead of the last of " + ramp, bay.motor(0, 5), 2);
            check.due("motor(0, 8)", bay.motor(0, 8), ramp - 1);
            check.due("count(15)", bay.count(15), 1);
            bay.pass(1);
            check.due("motor(0, 5) behind the last of " + ramp, bay.motor(0, 5), 3);
            check.due("event(0, 2)", bay.event(0, 2), 2);
            check.due("event(0, 0)", bay.event(0, 0), ramp - 1);
        }
    }

    @Sentence(of = "SECONDS", says = "The clock, which is 0 at first, goes on by 1.")
    static void theClock(Check check) {
        StarterBay bay = new StarterBay();
        check.due("count(5) at first", bay.count(5), 0);
        bay.pass(1);
        check.due("count(5)", bay.count(5), 1);
        bay.pass(60);
        check.due("count(5)", bay.count(5), 61);
        bay.setLimit(10);
        Bays.addSmall(bay, 1);
        bay.request(0);
        check.due("count(5): it stands between the seconds", bay.count(5), 61);
    }
}
