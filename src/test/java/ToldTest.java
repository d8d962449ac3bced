/** Promises 17 to 22. */
public final class ToldTest {
    private static final String RETURNS_MOTOR = "Returns the motor there; BAD_VALUE if place is negative; NONE if there are not "
            + "so many.";
    private static final String MOTOR = "`what`: 0 for the rated current, 1 the ramp, 2 the factor, 3 the limit of its heat, "
            + "4 the need, 5 the mode, 6 the heat that it holds, 7 the lost phases, 8 the seconds of its ramp that have passed "
            + "(NONE if it is not starting), 9 the seconds for which it has waited (NONE if it is not waiting), 10 what it draws "
            + "in the second that comes, if its mode does not change ahead of this, 11 the reason for which it has tripped (2 or "
            + "4; NONE if it is not tripped), 12 the credit (0 if it is negative)";
    private static final String ACCOUNT = "`what`: 0 for all heat that it has taken in, 1 all that it has given off, 2 how often it "
            + "has started, 3 how often it has tripped, 4 the seconds in which it turned, 5 the seconds in which it was waiting "
            + "(both as point 3 of each second finds it), 6 how often it has been passed over";
    private static final String ITEM = "`what`: 0 for the seconds until it is due, 1 for its word (0 start, 1 stop, 2 lose, 3 reset, "
            + "4 fan), 2 for its first number, 3 for its second one (NONE if it has only one)";

    public static void main(String[] args) {
        Check.all(ToldTest.class);
    }

    private static void all(Check check, StarterBay bay, String when, int... due) {
        for (int what = 0; what < due.length; what++) {
            check.due("motor(0, " + what + "), " + when, bay.motor(0, what), due[what]);
        }
    }

    @Sentence(of = "Promise 17", says = {"`motor`: the motor", MOTOR})
    static void motorInEachMode(Check check) {
        StarterBay bay = new StarterBay();
        bay.addMotor(11, 4, 3, 700);
        all(check, bay, "stopped", 11, 4, 3, 700, 5, 0, 0, 0, Bays.N, Bays.N, 0, Bays.N, 700);
        bay.losePhases(0, 5);
        bay.setNeed(0, 2);
        bay.request(0);
        bay.pass(12);
        all(check, bay, "waiting", 11, 4, 3, 700, 2, 1, 0, 5, Bays.N, 12, 0, Bays.N, 700);
        bay.losePhases(0, 0);
        // 33 A in 4 seconds: 9, 17, 25, 33, with the heats 8, 28, 62, 108.
        bay.pass(2);
        all(check, bay, "starting", 11, 4, 3, 700, 2, 2, 35, 0, 2, Bays.N, 25, Bays.N, 665);
        bay.pass(2);
        all(check, bay, "running", 11, 4, 3, 700, 2, 3, 194, 0, Bays.N, Bays.N, 11, Bays.N, 506);
        bay.losePhases(0, 3);
        all(check, bay, "running without two phases", 11, 4, 3, 700, 2, 3, 194, 3, Bays.N, Bays.N, 16, Bays.N, 506);
        // 25 twice each second: 244 - 9, 285 - 11, 324 - 12.
        bay.pass(3);
        all(check, bay, "tripped", 11, 4, 3, 700, 2, 4, 312, 3, Bays.N, Bays.N, 0, 4, 388);
    }

    @Sentence(of = "Promise 17", says = {"`motor`: the motor", MOTOR})
    static void secondsOfTheRamp(Check check) {
        StarterBay bay = new StarterBay();
        bay.addMotor(10, 30, 2, 1000);
        bay.request(0);
        check.due("motor(0, 8), waiting", bay.motor(0, 8), Bays.N);
        for (int second = 1; second < 30; second++) {
            bay.pass(1);
            check.due("motor(0, 8)", bay.motor(0, 8), second);
        }
        bay.pass(1);
        check.due("motor(0, 8), running", bay.motor(0, 8), Bays.N);
    }

    @Sentence(of = "Promise 17", says = {"`motor`: the motor", MOTOR})
    static void reasonOfTheTrip(Check check) {
        for (int mode = 0; mode <= 4; mode++) {
            StarterBay bay = new StarterBay();
            Bays.inMode(bay, mode);
            check.due("motor(0, 11) in the mode " + mode, bay.motor(0, 11), mode == 4 ? 4 : Bays.N);
        }
        StarterBay hot = Bays.hot();
        check.due("motor(0, 11)", hot.motor(0, 11), 2);
        hot.pass(60);
        check.due("motor(0, 11)", hot.motor(0, 11), 2);
        hot.reset(0);
        check.due("motor(0, 11): it is reset", hot.motor(0, 11), Bays.N);
        hot.request(0);
        hot.pass(1);
        hot.losePhases(0, 1);
        check.due("motor(0, 11): another reason now", hot.motor(0, 11), 4);
    }

    @Sentence(of = "Promise 17", says = {"`motor`: the motor", MOTOR})
    static void creditIsNeverToldNegative(Check check) {
        StarterBay bay = Bays.running(105);
        bay.pass(7);
        check.due("motor(0, 12) with 99 of 105", bay.motor(0, 12), 6);
        bay.pass(1);
        check.due("motor(0, 12) with 105 of 105", bay.motor(0, 12), 0);
        check.due("motor(0, 12) with 105 of 104", Bays.hot().motor(0, 12), 0);
    }

    @Sentence(of = "Promise 17", says = "Returns the number; UNKNOWN; BAD_VALUE.")
    static void motorOutOfRange(Check check) {
        StarterBay bay = new StarterBay();
        check.due("motor(0, 0)", bay.motor(0, 0), Bays.U);
        Bays.addSmall(bay, 2);
        check.due("motor(-1, 0)", bay.motor(-1, 0), Bays.U);
        check.due("motor(2, 0)", bay.motor(2, 0), Bays.U);
        check.due("motor(2, 13)", bay.motor(2, 13), Bays.U);
        check.due("motor(1, 0)", bay.motor(1, 0), 10);
        check.due("motor(1, 12)", bay.motor(1, 12), 1000);
        check.due("motor(1, -1)", bay.motor(1, -1), Bays.B);
        check.due("motor(1, 13)", bay.motor(1, 13), Bays.B);
    }

    @Sentence(of = "Promise 18", says = {"`motor`: the motor", ACCOUNT})
    static void account(Check check) {
        StarterBay bay = new StarterBay();
        Bays.addSmall(bay, 1);
        bay.losePhases(0, 1);
        bay.request(0);
        bay.pass(4);
        bay.losePhases(0, 0);
        bay.pass(3);
        bay.losePhases(0, 1);
        bay.pass(10);
        // 10, 40 and 10, then 22 twice in three seconds; given off 2, 2, 4, 5, 7, and then 160 * 20 / 1000 seven times.
        int[] due = {50 + 10 + 3 * 44, 20 + 7 * 3, 1, 1, 6, 4, 0};
        for (int what = 0; what < due.length; what++) {
            check.due("account(0, " + what + ")", bay.account(0, what), due[what]);
        }
        bay.losePhases(0, 0);
        bay.pass(60);
        bay.reset(0);
        bay.request(0);
        bay.pass(1);
        check.due("account(0, 2)", bay.account(0, 2), 2);
        check.due("account(0, 3)", bay.account(0, 3), 1);
        check.due("account(0, 4)", bay.account(0, 4), 7);
        check.due("account(0, 5)", bay.account(0, 5), 4);
        check.due("what it holds is the difference", bay.motor(0, 6), bay.account(0, 0) - bay.account(0, 1));
    }

    @Sentence(of = "Promise 18", says = {"`motor`: the motor", ACCOUNT})
    static void asPointThreeFindsIt(Check check) {
        StarterBay bay = new StarterBay();
        Bays.addSmall(bay, 1);
        Bays.read(bay, "0 start 0;5 stop 0;6 lose 0 1;6 start 0;8 stop 0");
        bay.pass(5);
        check.due("account(0, 4): it turned in the second of its start", bay.account(0, 4), 5);
        bay.pass(1);
        check.due("account(0, 4): an item stopped it ahead of point 3", bay.account(0, 4), 5);
        bay.pass(2);
        check.due("account(0, 5): an item requested it ahead of point 3", bay.account(0, 5), 2);
        bay.pass(1);
        check.due("account(0, 5): an item stopped it ahead of point 3", bay.account(0, 5), 2);
        // A call between two seconds leaves no trace in them.
        bay.request(0);
        bay.stop(0);
        bay.pass(1);
        check.due("account(0, 5)", bay.account(0, 5), 2);
        StarterBay hot = Bays.hot();
        check.due("account(0, 4): it turned in the second of its trip", hot.account(0, 4), 10);
    }

    @Sentence(of = "Promise 18", says = "Returns the number; UNKNOWN; BAD_VALUE.")
    static void accountOutOfRange(Check check) {
        StarterBay bay = new StarterBay();
        check.due("account(0, 0)", bay.account(0, 0), Bays.U);
        Bays.addSmall(bay, 2);
        check.due("account(-1, 0)", bay.account(-1, 0), Bays.U);
        check.due("account(2, 0)", bay.account(2, 0), Bays.U);
        check.due("account(2, 7)", bay.account(2, 7), Bays.U);
        check.due("account(1, 6)", bay.account(1, 6), 0);
        check.due("account(1, -1)", bay.account(1, -1), Bays.B);
        check.due("account(1, 7)", bay.account(1, 7), Bays.B);
    }

    @Sentence(of = "Promise 19", says = {"`place`: a place in the queue, from 0",
        RETURNS_MOTOR})
    static void queue(Check check) {
        for (int waiting = 0; waiting <= 8; waiting++) {
            StarterBay bay = new StarterBay();
            Bays.addSmall(bay, 8);
            for (int number = 0; number < waiting; number++) {
                bay.request(7 - number);
            }
            for (int place = 0; place <= 9; place++) {
                int due = place < waiting ? 8 - waiting + place : Bays.N;
                check.due("queue(" + place + ") of " + waiting, bay.queue(place), due);
            }
            check.due("queue(-1)", bay.queue(-1), Bays.B);
            check.due("queue(MIN_VALUE)", bay.queue(Integer.MIN_VALUE), Bays.B);
            check.due("queue(MAX_VALUE)", bay.queue(Integer.MAX_VALUE), Bays.N);
        }
    }

    @Sentence(of = "Promise 19", says = {"`place`: a place in the queue, from 0",
        RETURNS_MOTOR})
    static void queueOfDifferentNeeds(Check check) {
        StarterBay bay = new StarterBay();
        Bays.addSmall(bay, 8);
        int[] needs = {5, 9, 0, 5, 7, 9, 5, 1};
        for (int number = 7; number >= 0; number--) {
            bay.losePhases(number, 1);
            bay.setNeed(number, needs[number]);
            bay.request(number);
        }
        int[] line = {1, 5, 4, 0, 3, 6, 7, 2};
        for (int place = 0; place < 8; place++) {
            check.due("queue(" + place + ")", bay.queue(place), line[place]);
        }
        bay.stop(0);
        bay.pass(1);
        bay.request(0);
        bay.stop(5);
        int[] then = {1, 4, 3, 6, 0, 7, 2, Bays.N};
        for (int place = 0; place < 8; place++) {
            check.due("queue(" + place + ") then", bay.queue(place), then[place]);
        }
    }

    @Sentence(of = "Promise 20", says = "Tells why a motor that is waiting cannot start now.")
    static void whyNotNow(Check check) {
        StarterBay bay = new StarterBay();
        bay.addMotor(100, 2, 2, 60000);
        bay.addMotor(100, 2, 2, 60000);
        bay.addMotor(100, 2, 2, 60000);
        for (int number = 0; number < 3; number++) {
            bay.request(number);
            check.due("whyNot: those ahead in the queue play no part", bay.whyNot(number), 0);
        }
        bay.pass(1);
        check.due("whyNot(1): 200 of a start and 200", bay.whyNot(1), 0);
        bay.pass(1);
        check.due("whyNot(2): 100, 200 and 200", bay.whyNot(2), 0);
        bay.setLimit(499);
        check.due("whyNot(2)", bay.whyNot(2), 3);
        bay.stop(0);
        check.due("whyNot(2): it tells of now", bay.whyNot(2), 0);
    }

    @Sentence(of = "Promise 20", says = {"`motor`: the motor",
        "Returns the reason (4, 2 or 3), 0 if it can; UNKNOWN; NONE if it is not waiting."})
    static void whyNotReturns(Check check) {
        StarterBay bay = new StarterBay();
        check.due("whyNot(0)", bay.whyNot(0), Bays.U);
        // A start heat of 1000 + 4000, a peak of 200.
        bay.addMotor(100, 2, 2, 5000);
        bay.addMotor(100, 2, 2, 4999);
        check.due("whyNot(-1)", bay.whyNot(-1), Bays.U);
        check.due("whyNot(2)", bay.whyNot(2), Bays.U);
        bay.request(0);
        bay.request(1);
        check.due("whyNot(0)", bay.whyNot(0), 0);
        check.due("whyNot(1)", bay.whyNot(1), 2);
        bay.setLimit(199);
        check.due("whyNot(0)", bay.whyNot(0), 3);
        bay.losePhases(0, 4);
        check.due("whyNot(0)", bay.whyNot(0), 4);
        check.due("count(8): no reason is set", bay.count(8), 0);
        for (int mode = 0; mode <= 4; mode++) {
            StarterBay one = new StarterBay();
            Bays.inMode(one, mode);
            check.due("whyNot(0) in the mode " + mode, one.whyNot(0), mode == 1 ? 0 : Bays.N);
            one.losePhases(0, 1);
            check.due("whyNot(0) without a phase", one.whyNot(0), mode == 1 ? 4 : Bays.N);
        }
    }

    @Sentence(of = "Promise 21", says = {"`event`: 0 for the latest one, and so on",
        "`what`: 0 for its time, 1 for the motor, 2 for its kind (1 to 6)"})
    static void event(Check check) {
        StarterBay bay = new StarterBay();
        Bays.addSmall(bay, 8);
        for (int number = 0; number < 8; number++) {
            bay.request(number);
            bay.stop(number);
            bay.pass(1);
        }
        for (int event = 0; event < 8; event++) {
            check.due("event(" + event + ", 0)", bay.event(event, 0), 7 - event);
            check.due("event(" + event + ", 1)", bay.event(event, 1), 7 - event);
            check.due("event(" + event + ", 2)", bay.event(event, 2), 3);
        }
        bay.request(2);
        bay.pass(2);
        int[] latest = {9, 2, 2};
        int[] next = {8, 2, 1};
        for (int what = 0; what < 3; what++) {
            check.due("event(0, " + what + ")", bay.event(0, what), latest[what]);
            check.due("event(1, " + what + ")", bay.event(1, what), next[what]);
        }
        check.due("event(2, 1)", bay.event(2, 1), 7);
    }

    @Sentence(of = "Promise 21",
            says = "Returns the number; BAD_VALUE if event is negative or what is out of range; NONE if there are not so many.")
    static void eventOutOfRange(Check check) {
        for (int events = 0; events <= 12; events++) {
            StarterBay bay = new StarterBay();
            Bays.addSmall(bay, 1);
            for (int event = 0; event < events; event++) {
                bay.request(0);
                bay.stop(0);
            }
            int kept = Math.min(events, 10);
            check.due("event(the last one, 2) of " + events, bay.event(Math.max(0, kept - 1), 2), events == 0 ? Bays.N : 3);
            check.due("event(one more, 2) of " + events, bay.event(kept, 2), Bays.N);
            check.due("event(MAX_VALUE, 0)", bay.event(Integer.MAX_VALUE, 0), Bays.N);
            check.due("event(-1, 0)", bay.event(-1, 0), Bays.B);
            check.due("event(0, -1)", bay.event(0, -1), Bays.B);
            check.due("event(0, 3)", bay.event(0, 3), Bays.B);
            check.due("event(MAX_VALUE, 3)", bay.event(Integer.MAX_VALUE, 3), Bays.B);
        }
    }

    @Sentence(of = "Promise 22", says = {"`item`: an item of the timetable that is left, 0 for the next one, and so on", ITEM})
    static void item(Check check) {
        StarterBay bay = new StarterBay();
        bay.pass(10);
        Bays.read(bay, "0 start 1;2 stop 2;3 lose 3 6;40 reset 4;9999 fan 1");
        int[][] due = {{0, 0, 1, Bays.N}, {2, 1, 2, Bays.N}, {3, 2, 3, 6}, {40, 3, 4, Bays.N}, {9999, 4, 1, Bays.N}};
        for (int passed = 0; passed <= 4; passed++) {
            int gone = passed == 0 ? 0 : passed < 3 ? 1 : passed == 3 ? 2 : 3;
            for (int item = 0; item < 5 - gone; item++) {
                String when = "item(" + item + ", what) after " + passed;
                check.due(when, bay.item(item, 0), due[item + gone][0] - passed);
                for (int what = 1; what < 4; what++) {
                    check.due(when, bay.item(item, what), due[item + gone][what]);
                }
            }
            check.due("item(" + (5 - gone) + ", 0)", bay.item(5 - gone, 0), Bays.N);
            bay.pass(1);
        }
        StarterBay zeros = new StarterBay();
        Bays.read(zeros, "0 lose 0 0;0 fan 0");
        int[][] none = {{0, 2, 0, 0}, {0, 4, 0, Bays.N}};
        for (int item = 0; item < 2; item++) {
            for (int what = 0; what < 4; what++) {
                check.due("item(" + item + ", " + what + ") of zeros", zeros.item(item, what), none[item][what]);
            }
        }
    }

    @Sentence(of = "Promise 22",
            says = "Returns the number; BAD_VALUE if item is negative or what is out of range; NONE if there are not so many.")
    static void itemOutOfRange(Check check) {
        String[] texts = {"", "1 fan 1", "0 fan 1;0 fan 0;0 fan 1;0 fan 0;0 fan 1;0 fan 0;0 fan 1;0 fan 0;0 fan 1;0 fan 0"};
        int[] items = {0, 1, 10};
        for (int place = 0; place < texts.length; place++) {
            StarterBay bay = new StarterBay();
            Bays.read(bay, texts[place]);
            int left = items[place];
            check.due("item(the last one, 1) of " + left, bay.item(Math.max(0, left - 1), 1), left == 0 ? Bays.N : 4);
            check.due("item(one more, 1) of " + left, bay.item(left, 1), Bays.N);
            check.due("item(MAX_VALUE, 0)", bay.item(Integer.MAX_VALUE, 0), Bays.N);
            check.due("item(-1, 0)", bay.item(-1, 0), Bays.B);
            check.due("item(MIN_VALUE, 0)", bay.item(Integer.MIN_VALUE, 0), Bays.B);
            check.due("item(0, -1)", bay.item(0, -1), Bays.B);
            check.due("item(0, 4)", bay.item(0, 4), Bays.B);
            check.due("item(MAX_VALUE, 4)", bay.item(Integer.MAX_VALUE, 4), Bays.B);
        }
    }
}
