/** Promises 6 to 10. */
public final class OrdersTest {
    private static final String RETURNS_PLACE = "Returns its place in the queue, from 0; UNKNOWN; REFUSED for the reason 1 if "
            + "it is not stopped.";
    private static final String RETURNS_MODE = "Returns the mode in which it was; UNKNOWN; REFUSED for the reason 1 if it is "
            + "stopped or tripped.";
    private static final String RETURNS_HEAT = "Returns the heat that it holds; UNKNOWN; REFUSED for the reasons 1 (if it is not "
            + "tripped), 4 (if any phase is lost) and 2 (if it holds more than half its limit, rounded down), in this order.";

    public static void main(String[] args) {
        Check.all(OrdersTest.class);
    }

    @Sentence(of = "Promise 6", says = {"Requests a motor that is stopped: it is waiting then.", "This is an act."})
    static void requestsAMotor(Check check) {
        Twins.undone(check, "request(1)", bay -> Bays.addSmall(bay, 2), bay -> bay.request(1), 0);
        StarterBay bay = new StarterBay();
        Bays.addSmall(bay, 2);
        bay.request(1);
        check.due("motor(1, 5)", bay.motor(1, 5), 1);
        check.due("motor(0, 5)", bay.motor(0, 5), 0);
        check.due("motor(1, 9)", bay.motor(1, 9), 0);
        // It may wait when it can't start.
        StarterBay lost = new StarterBay();
        lost.addMotor(100, 30, 6, 100);
        lost.losePhases(0, 7);
        check.due("request(0)", lost.request(0), 0);
        check.due("motor(0, 5)", lost.motor(0, 5), 1);
    }

    @Sentence(of = "Promise 6", says = {"`motor`: the motor",
        RETURNS_PLACE})
    static void returnsItsPlace(Check check) {
        StarterBay bay = new StarterBay();
        check.due("request(0)", bay.request(0), Bays.U);
        Bays.addSmall(bay, 8);
        check.due("request(-1)", bay.request(-1), Bays.U);
        check.due("request(8)", bay.request(8), Bays.U);
        for (int number = 0; number < 7; number++) {
            check.due("request(" + number + ")", bay.request(number), number);
        }
        bay.setNeed(7, 6);
        check.due("request(7), of a greater need", bay.request(7), 0);
        for (int number = 0; number < 8; number++) {
            bay.stop(number);
        }
        for (int number = 7; number >= 0; number--) {
            check.due("request(" + number + ") backwards", bay.request(number), number == 7 || number == 6 ? 7 - number : 1);
        }
    }

    @Sentence(of = "Promise 6", says = {"`motor`: the motor",
        RETURNS_PLACE})
    static void requestIsRefused(Check check) {
        for (int mode = 1; mode <= 4; mode++) {
            int brought = mode;
            Twins.refused(check, "request(0) in the mode " + mode, bay -> Bays.inMode(bay, brought), bay -> bay.request(0), 1);
        }
    }

    @Sentence(of = "Promise 7", says = {"Stops a motor that is waiting, starting or running: it is stopped then.",
        "This is an act."})
    static void stopsAMotor(Check check) {
        for (int mode = 1; mode <= 3; mode++) {
            int brought = mode;
            Twins.undone(check, "stop(0)", bay -> Bays.inMode(bay, brought), bay -> bay.stop(0), mode);
            StarterBay bay = new StarterBay();
            Bays.inMode(bay, mode);
            int heat = bay.motor(0, 6);
            int events = bay.count(15);
            bay.stop(0);
            int[] what = {5, 6, 8, 9, 10, 11};
            int[] due = {0, heat, Bays.N, Bays.N, 0, Bays.N};
            for (int place = 0; place < what.length; place++) {
                check.due("motor(0, " + what[place] + ")", bay.motor(0, what[place]), due[place]);
            }
            check.due("count(15)", bay.count(15), events + 1);
            check.due("event(0, 2)", bay.event(0, 2), 3);
            check.due("queue(0)", bay.queue(0), Bays.N);
            check.due("account(0, 3): it is no trip", bay.account(0, 3), 0);
        }
    }

    @Sentence(of = "Promise 7", says = {"`motor`: the motor",
        RETURNS_MODE})
    static void returnsTheMode(Check check) {
        for (int mode = 0; mode <= 4; mode++) {
            StarterBay bay = new StarterBay();
            check.due("stop(0) without motors", bay.stop(0), Bays.U);
            Bays.inMode(bay, mode);
            check.due("stop(-1)", bay.stop(-1), Bays.U);
            check.due("stop(1)", bay.stop(1), Bays.U);
            check.due("stop(0) in the mode " + mode, bay.stop(0), mode == 0 || mode == 4 ? Bays.R : mode);
            check.due("count(8)", bay.count(8), mode == 0 || mode == 4 ? 1 : 0);
            check.due("motor(0, 5)", bay.motor(0, 5), mode == 4 ? 4 : 0);
        }
    }

    @Sentence(of = "Promise 7", says = {"`motor`: the motor",
        RETURNS_MODE})
    static void stopIsRefused(Check check) {
        Twins.refused(check, "stop(0), stopped", bay -> Bays.inMode(bay, 0), bay -> bay.stop(0), 1);
        Twins.refused(check, "stop(0), tripped", bay -> Bays.inMode(bay, 4), bay -> bay.stop(0), 1);
    }

    @Sentence(of = "Promise 8", says = {"Sets which phases of a motor are lost.", "This is an act."})
    static void setsTheLostPhases(Check check) {
        for (int mode = 0; mode <= 4; mode++) {
            int brought = mode;
            Twins.undone(check, "losePhases(0, 6) in the mode " + mode, bay -> Bays.inMode(bay, brought),
                    bay -> bay.losePhases(0, 6), 0);
            StarterBay bay = new StarterBay();
            Bays.inMode(bay, mode);
            bay.losePhases(0, 6);
            check.due("motor(0, 7)", bay.motor(0, 7), 6);
            bay.losePhases(0, 1);
            check.due("motor(0, 7): it is set anew, and not added", bay.motor(0, 7), 1);
            check.due("motor(0, 5)", bay.motor(0, 5), mode == 2 ? 4 : mode);
            bay.losePhases(0, 0);
            check.due("motor(0, 7)", bay.motor(0, 7), 0);
            check.due("motor(0, 5): mended, it does not go back", bay.motor(0, 5), mode == 2 ? 4 : mode);
        }
    }

    @Sentence(of = "Promise 8",
            says = "If any is lost then, and the motor is starting, it trips at once (for the reason 4).")
    static void tripsAtOnce(Check check) {
        for (int lost = 1; lost <= 7; lost++) {
            StarterBay bay = new StarterBay();
            Bays.inMode(bay, 2);
            check.due("losePhases(0, " + lost + ")", bay.losePhases(0, lost), 0);
            check.due("motor(0, 5)", bay.motor(0, 5), 4);
            check.due("motor(0, 7)", bay.motor(0, 7), lost);
            check.due("motor(0, 11)", bay.motor(0, 11), 4);
            check.due("motor(0, 8)", bay.motor(0, 8), Bays.N);
            check.due("account(0, 3)", bay.account(0, 3), 1);
            check.due("event(0, 0)", bay.event(0, 0), 1);
            check.due("event(0, 2)", bay.event(0, 2), 5);
            check.due("count(8): it is no refusal", bay.count(8), 0);
        }
        int[] others = {0, 1, 3};
        for (int mode : others) {
            StarterBay bay = new StarterBay();
            Bays.inMode(bay, mode);
            int events = bay.count(15);
            bay.losePhases(0, 7);
            check.due("motor(0, 5)", bay.motor(0, 5), mode);
            check.due("account(0, 3)", bay.account(0, 3), 0);
            check.due("count(15)", bay.count(15), events);
        }
        StarterBay tripped = Bays.hot();
        tripped.losePhases(0, 1);
        check.due("motor(0, 11): the reason of its trip stays", tripped.motor(0, 11), 2);
        check.due("account(0, 3)", tripped.account(0, 3), 1);
    }

    @Sentence(of = "Promise 8", says = {"`motor`: the motor", "`phases`: 0 to 7: the lost ones as a bit set",
        "Returns the previous bit set; UNKNOWN; BAD_VALUE; NONE if it is so already."})
    static void returnsThePreviousSet(Check check) {
        StarterBay bay = new StarterBay();
        check.due("losePhases(0, 8)", bay.losePhases(0, 8), Bays.U);
        Bays.addSmall(bay, 1);
        check.due("losePhases(-1, 1)", bay.losePhases(-1, 1), Bays.U);
        check.due("losePhases(1, 1)", bay.losePhases(1, 1), Bays.U);
        int previous = 0;
        int[] sets = {7, 1, 6, 2, 5, 3, 4, 0};
        check.due("losePhases(0, 0)", bay.losePhases(0, 0), Bays.N);
        for (int set : sets) {
            check.due("losePhases(0, -1)", bay.losePhases(0, -1), Bays.B);
            check.due("losePhases(0, 8)", bay.losePhases(0, 8), Bays.B);
            check.due("losePhases(0, 15)", bay.losePhases(0, 15), Bays.B);
            check.due("losePhases(0, " + set + ")", bay.losePhases(0, set), previous);
            check.due("losePhases(0, " + set + ") again", bay.losePhases(0, set), Bays.N);
            previous = set;
        }
    }

    @Sentence(of = "Promise 9", says = {"Resets a motor that is tripped: it is stopped then.", "This is an act."})
    static void resetsAMotor(Check check) {
        Twins.undone(check, "reset(0)", bay -> Bays.inMode(bay, 4), bay -> bay.reset(0), 1);
        StarterBay bay = Bays.tripped();
        bay.losePhases(0, 0);
        bay.reset(0);
        check.due("motor(0, 5)", bay.motor(0, 5), 0);
        check.due("motor(0, 6): it still holds its heat", bay.motor(0, 6), 10);
        check.due("motor(0, 11)", bay.motor(0, 11), Bays.N);
        check.due("event(0, 2)", bay.event(0, 2), 6);
        check.due("count(15)", bay.count(15), 3);
        check.due("account(0, 3)", bay.account(0, 3), 1);
        check.due("request(0): it can be requested then", bay.request(0), 0);
    }

    @Sentence(of = "Promise 9", says = {"`motor`: the motor", RETURNS_HEAT})
    static void returnsTheHeat(Check check) {
        StarterBay bay = new StarterBay();
        check.due("reset(0)", bay.reset(0), Bays.U);
        Bays.inMode(bay, 4);
        check.due("reset(-1)", bay.reset(-1), Bays.U);
        check.due("reset(1)", bay.reset(1), Bays.U);
        check.due("reset(0)", bay.reset(0), 1);
        // 100 * 100 / 10 in the second 0, without anything given off ahead of the trip but 40.
        StarterBay big = new StarterBay();
        big.addMotor(100, 2, 2, 60000);
        big.request(0);
        big.pass(1);
        big.losePhases(0, 1);
        big.losePhases(0, 0);
        check.due("reset(0) of a big one", big.reset(0), 960);
    }

    @Sentence(of = "Promise 9", says = {"`motor`: the motor", RETURNS_HEAT})
    static void resetIsRefused(Check check) {
        for (int mode = 0; mode <= 3; mode++) {
            int brought = mode;
            Twins.refused(check, "reset(0) in the mode " + mode, bay -> Bays.inMode(bay, brought), bay -> bay.reset(0), 1);
        }
        for (int lost = 1; lost <= 7; lost++) {
            int set = lost;
            Twins.refused(check, "reset(0) without the phases " + lost, bay -> {
                Bays.inMode(bay, 4);
                bay.losePhases(0, set);
            }, bay -> bay.reset(0), 4);
        }
        Twins.refused(check, "reset(0), hot", bay -> {
            Bays.run(bay, 10, 104);
            bay.pass(8);
        }, bay -> bay.reset(0), 2);
    }

    @Sentence(of = "Promise 9", says = {"`motor`: the motor", RETURNS_HEAT})
    static void halfItsLimitRoundedDown(Check check) {
        // Below 100 a motor that stands gives off 1 in a second, so that it comes by every heat.
        for (int limit = 110; limit <= 113; limit++) {
            StarterBay bay = Bays.running(limit);
            for (int seconds = 0; seconds < 60 && bay.motor(0, 5) != 4; seconds++) {
                bay.pass(1);
            }
            check.due("motor(0, 11)", bay.motor(0, 11), 2);
            for (int seconds = 0; seconds < 60 && bay.motor(0, 6) > 57; seconds++) {
                check.due("reset, hot", bay.reset(0), Bays.R);
                bay.pass(1);
            }
            check.due("motor(0, 6)", bay.motor(0, 6), 57);
            check.due("reset at 57 of " + limit, bay.reset(0), Bays.R);
            check.due("count(8)", bay.count(8), 2);
            bay.pass(1);
            check.due("reset at 56 of " + limit, bay.reset(0), limit < 112 ? Bays.R : 56);
            bay.pass(1);
            check.due("reset at 55 of " + limit, bay.reset(0), limit < 112 ? 55 : Bays.R);
        }
    }

    @Sentence(of = "Promise 10", says = {"Lets seconds pass, one after the other.", "This is an act."})
    static void oneAfterTheOther(Check check) {
        Twins.undone(check, "pass(60)", bay -> Bays.inMode(bay, 1), bay -> bay.pass(60), 1);
        // A call for many seconds does what as many calls for one do.
        StarterBay[] bays = {new StarterBay(), new StarterBay()};
        for (StarterBay bay : bays) {
            Bays.addSmall(bay, 3);
            bay.addMotor(10, 2, 2, 104);
            Bays.read(bay, "0 start 2;3 start 3;5 lose 2 1;9 fan 1;20 lose 2 0;21 reset 2;30 start 2");
            bay.request(0);
        }
        bays[0].pass(40);
        for (int second = 0; second < 40; second++) {
            bays[1].pass(1);
        }
        String difference = Everything.difference(Everything.of(bays[0]), Everything.of(bays[1]));
        check.yes("40 seconds are 40 times one, but: " + difference, difference.isEmpty());
        check.due("undo(): it is one act", bays[0].undo(), 3);
        check.due("count(5)", bays[0].count(5), 0);
        bays[1].undo();
        check.due("count(5)", bays[1].count(5), 39);
    }

    @Sentence(of = "Promise 10", says = "`seconds`: 1 to 60")
    static void fromOneToSixty(Check check) {
        int[] outside = {Integer.MIN_VALUE, -60, -1, 0, 61, 120, Integer.MAX_VALUE};
        for (int seconds : outside) {
            Twins.stays(check, "pass(" + seconds + ")", bay -> Bays.inMode(bay, 2), bay -> bay.pass(seconds), Bays.B);
        }
        int[] inside = {1, 2, 59, 60};
        for (int seconds : inside) {
            StarterBay bay = new StarterBay();
            check.due("pass(" + seconds + ")", bay.pass(seconds), 0);
            check.due("count(5)", bay.count(5), seconds);
        }
    }

    @Sentence(of = "Promise 10", says = "Returns how many motors start in them; BAD_VALUE.")
    static void returnsTheStarts(Check check) {
        for (int motors = 0; motors <= 8; motors++) {
            StarterBay bay = new StarterBay();
            Bays.addSmall(bay, motors);
            for (int number = 0; number < motors; number++) {
                bay.request(number);
            }
            check.due("pass(5) with " + motors, bay.pass(5), Math.min(motors, 5));
            check.due("pass(60) with " + motors, bay.pass(60), Math.max(0, motors - 5));
            check.due("pass(60) again", bay.pass(60), 0);
        }
        // A motor may start more than once in a call: each start counts, and one that ends at once too.
        StarterBay twice = new StarterBay();
        Bays.addSmall(twice, 1);
        Bays.read(twice, "0 start 0;1 stop 0;2 start 0;3 lose 0 1");
        check.due("pass(60)", twice.pass(60), 2);
        check.due("account(0, 2)", twice.account(0, 2), 2);
    }
}
