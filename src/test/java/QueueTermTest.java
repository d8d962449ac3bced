/** The sentences under QUEUE. */
public final class QueueTermTest {
    private static final String URGENCY = "Its urgency is its need plus 1 for each 10 full seconds for which it has waited.";
    private static final String LINE = "The queue has all motors that are waiting: the one with the greater urgency is ahead; "
            + "of the same, the one that has waited longer; then the one with the lower number.";
    private static final String CAN_START = "A motor that is waiting can start if (4) none of its phases is lost, (2) its "
            + "credit is at least its start heat, and (3) its peak, plus the peaks of all that are starting, plus what all that "
            + "are running draw, is at most the limit of the bay (10 to 2000, at first 500).";

    public static void main(String[] args) {
        Check.all(QueueTermTest.class);
    }

    // Motors without a phase wait as long as a test likes.
    private static StarterBay stuck(int... needs) {
        StarterBay bay = new StarterBay();
        for (int number = 0; number < needs.length; number++) {
            bay.addMotor(10, 2, 2, 1000);
            bay.setNeed(number, needs[number]);
            bay.losePhases(number, 1);
        }
        return bay;
    }

    private static void line(Check check, String when, StarterBay bay, int... motors) {
        for (int place = 0; place < motors.length; place++) {
            check.due("queue(" + place + "), " + when, bay.queue(place), motors[place]);
        }
        check.due("queue(" + motors.length + "), " + when, bay.queue(motors.length), Bays.N);
    }

    @Sentence(of = "QUEUE",
            says = "A motor that is waiting has waited for as many seconds as have passed since it was requested.")
    static void waited(Check check) {
        StarterBay bay = stuck(5);
        bay.pass(7);
        bay.request(0);
        check.due("motor(0, 9) at once", bay.motor(0, 9), 0);
        bay.pass(1);
        check.due("motor(0, 9)", bay.motor(0, 9), 1);
        bay.pass(60);
        check.due("motor(0, 9)", bay.motor(0, 9), 61);
        bay.stop(0);
        bay.pass(4);
        bay.request(0);
        check.due("motor(0, 9): it counts from the latest request", bay.motor(0, 9), 0);
        bay.pass(2);
        check.due("motor(0, 9)", bay.motor(0, 9), 2);
        Bays.read(bay, "0 stop 0;3 start 0");
        bay.pass(3);
        check.due("motor(0, 9): it is stopped", bay.motor(0, 9), Bays.N);
        bay.pass(1);
        check.due("motor(0, 9): an item requested it ahead of this second", bay.motor(0, 9), 1);
    }

    @Sentence(of = "QUEUE", says = URGENCY)
    static void urgencyGrowsAtTenFullSeconds(Check check) {
        int[] seconds = {9, 10, 19, 20, 89, 90};
        int[] gained = {0, 1, 1, 2, 8, 9};
        for (int place = 0; place < seconds.length; place++) {
            for (int need = 0; need <= 9; need++) {
                StarterBay bay = stuck(0, need);
                bay.request(0);
                Bays.passLong(bay, seconds[place]);
                bay.request(1);
                // Of the same urgency, the motor 0 is ahead: it has waited longer.
                int first = gained[place] >= need ? 0 : 1;
                check.due("queue(0) after " + seconds[place] + " seconds, against the need " + need, bay.queue(0), first);
            }
        }
    }

    @Sentence(of = "QUEUE", says = URGENCY)
    static void bothGrow(Check check) {
        StarterBay bay = stuck(5, 6);
        bay.request(0);
        bay.pass(9);
        bay.request(1);
        int[] first = {1, 0, 0, 0, 0, 0, 0, 0, 0, 0, 1, 0};
        for (int waited = 9; waited <= 20; waited++) {
            check.due("queue(0) after " + waited + " seconds", bay.queue(0), first[waited - 9]);
            bay.pass(1);
        }
    }

    @Sentence(of = "QUEUE", says = LINE)
    static void greaterUrgencyIsAhead(Check check) {
        StarterBay bay = stuck(4, 5, 6);
        bay.request(0);
        bay.pass(1);
        bay.request(1);
        bay.pass(1);
        bay.request(2);
        line(check, "against what they have waited and their numbers", bay, 2, 1, 0);
        bay.setNeed(0, 7);
        line(check, "with another need", bay, 0, 2, 1);
    }

    @Sentence(of = "QUEUE", says = LINE)
    static void ofTheSameTheOneThatHasWaitedLonger(Check check) {
        StarterBay bay = stuck(5, 5, 5);
        bay.request(2);
        bay.pass(1);
        bay.request(1);
        bay.pass(1);
        bay.request(0);
        line(check, "against their numbers", bay, 2, 1, 0);
        StarterBay grown = stuck(4, 5);
        grown.request(0);
        grown.pass(10);
        grown.request(1);
        line(check, "the same urgency by 10 seconds", grown, 0, 1);
    }

    @Sentence(of = "QUEUE", says = LINE)
    static void thenTheOneWithTheLowerNumber(Check check) {
        StarterBay bay = stuck(5, 5, 5, 5, 5, 5, 5, 5);
        int[] order = {3, 7, 0, 5, 1, 6, 2, 4};
        for (int number : order) {
            bay.request(number);
        }
        line(check, "requested at the same time", bay, 0, 1, 2, 3, 4, 5, 6, 7);
    }

    @Sentence(of = "QUEUE", says = LINE)
    static void onlyThoseThatAreWaiting(Check check) {
        for (int mode = 0; mode <= 4; mode++) {
            StarterBay bay = new StarterBay();
            Bays.inMode(bay, mode);
            check.due("queue(0) in the mode " + mode, bay.queue(0), mode == 1 ? 0 : Bays.N);
            check.due("count(1) in the mode " + mode, bay.count(1), mode == 1 ? 1 : 0);
        }
    }

    @Sentence(of = "QUEUE", says = CAN_START)
    static void noneOfItsPhasesIsLost(Check check) {
        for (int lost = 0; lost <= 7; lost++) {
            StarterBay bay = new StarterBay();
            Bays.addSmall(bay, 1);
            bay.losePhases(0, lost);
            bay.request(0);
            check.due("whyNot(0) without the phases " + lost, bay.whyNot(0), lost == 0 ? 0 : 4);
            check.due("pass(1) without the phases " + lost, bay.pass(1), lost == 0 ? 1 : 0);
        }
    }

    @Sentence(of = "QUEUE", says = CAN_START)
    static void itsCreditIsAtLeastItsStartHeat(Check check) {
        // A start takes 1000 + 4000.
        for (int limit = 4999; limit <= 5001; limit++) {
            StarterBay bay = new StarterBay();
            bay.addMotor(100, 2, 2, limit);
            bay.request(0);
            check.due("whyNot(0) at " + limit, bay.whyNot(0), limit < 5000 ? 2 : 0);
            check.due("pass(1) at " + limit, bay.pass(1), limit < 5000 ? 0 : 1);
        }
        // The heat that it holds counts: 48 are left of the first start, and the next one takes 50.
        for (int limit = 100; limit <= 101; limit++) {
            StarterBay bay = Bays.running(limit);
            bay.stop(0);
            bay.request(0);
            check.due("whyNot(0) with 48 of " + limit, bay.whyNot(0), 0);
            StarterBay warm = Bays.running(limit);
            warm.pass(1);
            warm.stop(0);
            warm.request(0);
            check.due("whyNot(0) with 56 of " + limit, warm.whyNot(0), 2);
            warm.pass(limit == 100 ? 5 : 4);
            check.due("whyNot(0) with 51 of 100, 52 of 101", warm.whyNot(0), 2);
            check.due("pass(1)", warm.pass(1), 0);
            check.due("whyNot(0) with 50 of 100, 51 of 101", warm.whyNot(0), 0);
        }
    }

    @Sentence(of = "QUEUE", says = CAN_START)
    static void itsPeakIsAtMostTheLimitOfTheBay(Check check) {
        StarterBay first = new StarterBay();
        check.due("count(6) at first", first.count(6), 500);
        first.addMotor(100, 2, 5, 60000);
        first.request(0);
        check.due("whyNot(0): 500 of 500", first.whyNot(0), 0);
        StarterBay more = new StarterBay();
        more.addMotor(84, 2, 6, 60000);
        more.request(0);
        check.due("whyNot(0): 504 of 500", more.whyNot(0), 3);
        check.due("pass(1)", more.pass(1), 0);
        more.setLimit(503);
        check.due("whyNot(0): 504 of 503", more.whyNot(0), 3);
        more.setLimit(504);
        check.due("whyNot(0): 504 of 504", more.whyNot(0), 0);
        check.due("pass(1)", more.pass(1), 1);
        StarterBay least = new StarterBay();
        least.addMotor(5, 2, 2, 1000);
        least.addMotor(4, 2, 3, 1000);
        least.setLimit(10);
        least.request(0);
        least.request(1);
        check.due("whyNot(0): 10 of 10", least.whyNot(0), 0);
        check.due("whyNot(1): 12 of 10", least.whyNot(1), 3);
    }

    @Sentence(of = "QUEUE", says = CAN_START)
    static void thePeaksOfThoseThatAreStarting(Check check) {
        // A start with 60 of peak, in its first second, and one of 30 beside it: the peaks count, not what is drawn.
        for (int limit = 99; limit <= 100; limit++) {
            StarterBay bay = new StarterBay();
            bay.addMotor(20, 30, 3, 60000);
            bay.addMotor(10, 30, 3, 60000);
            bay.addMotor(5, 2, 2, 60000);
            bay.request(0);
            bay.request(1);
            bay.pass(2);
            check.due("count(2)", bay.count(2), 2);
            check.due("motor(0, 10)", bay.motor(0, 10), 6);
            bay.setLimit(limit);
            bay.request(2);
            check.due("whyNot(2) at " + limit, bay.whyNot(2), limit < 100 ? 3 : 0);
            check.due("pass(1) at " + limit, bay.pass(1), limit < 100 ? 0 : 1);
        }
    }

    @Sentence(of = "QUEUE", says = CAN_START)
    static void whatThoseThatAreRunningDraw(Check check) {
        StarterBay bay = new StarterBay();
        bay.addMotor(11, 2, 2, 60000);
        bay.addMotor(20, 2, 2, 60000);
        bay.addMotor(5, 2, 2, 60000);
        bay.request(0);
        bay.request(1);
        bay.pass(3);
        check.due("count(3)", bay.count(3), 2);
        bay.request(2);
        int[] lost = {0, 4, 0};
        int[] drawn = {11 + 20, 16 + 20, 11 + 20};
        for (int round = 0; round < 3; round++) {
            bay.losePhases(0, lost[round]);
            bay.setLimit(drawn[round] + 9);
            check.due("whyNot(2) with one too little", bay.whyNot(2), 3);
            bay.setLimit(drawn[round] + 10);
            check.due("whyNot(2)", bay.whyNot(2), 0);
        }
        bay.stop(1);
        bay.setLimit(21);
        check.due("whyNot(2): one that is stopped draws nothing", bay.whyNot(2), 0);
        bay.request(1);
        check.due("whyNot(2): nor one that is waiting", bay.whyNot(2), 0);
        bay.setLimit(20);
        check.due("whyNot(2)", bay.whyNot(2), 3);
    }

    @Sentence(of = "QUEUE",
            says = "The numbers are the reasons for which it cannot; if several apply, the first one in this order is told.")
    static void theFirstReasonIsTold(Check check) {
        // {phases lost, limit of heat, limit of the bay, the reason}; a start takes 5000 with a peak of 200.
        int[][] cases = {{0, 5000, 200, 0}, {0, 5000, 199, 3}, {0, 4999, 200, 2}, {0, 4999, 199, 2}, {2, 5000, 200, 4},
            {2, 5000, 199, 4}, {2, 4999, 200, 4}, {2, 4999, 199, 4}};
        for (int[] one : cases) {
            StarterBay bay = new StarterBay();
            bay.addMotor(100, 2, 2, one[1]);
            bay.losePhases(0, one[0]);
            bay.setLimit(one[2]);
            bay.request(0);
            String when = "with " + one[0] + ", " + one[1] + ", " + one[2];
            check.due("whyNot(0) " + when, bay.whyNot(0), one[3]);
            check.due("pass(1) " + when, bay.pass(1), one[3] == 0 ? 1 : 0);
        }
    }
}
