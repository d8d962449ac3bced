/** The sentences under EVENTS. */
public final class EventsTermTest {
    private static final String KEPT = "Events are kept, the latest 10: 1 a motor starts, 2 it is running, 3 it is stopped, "
            + "4 it trips for heat, 5 it trips for phases, 6 it is reset.";
    private static final String TIME = "The time of an event is that of the clock when it happens.";

    public static void main(String[] args) {
        Check.all(EventsTermTest.class);
    }

    private static void latest(Check check, StarterBay bay, int events, int time, int motor, int kind) {
        check.due("count(15)", bay.count(15), events);
        check.due("event(0, 0)", bay.event(0, 0), time);
        check.due("event(0, 1)", bay.event(0, 1), motor);
        check.due("event(0, 2)", bay.event(0, 2), kind);
    }

    // Each request with a stop is one event; the clock tells them apart.
    private static StarterBay withEvents(int events) {
        StarterBay bay = new StarterBay();
        Bays.addSmall(bay, 1);
        for (int event = 0; event < events; event++) {
            bay.request(0);
            bay.stop(0);
            bay.pass(1);
        }
        return bay;
    }

    @Sentence(of = "EVENTS", says = KEPT)
    static void theLatestTen(Check check) {
        int[] numbers = {0, 1, 9, 10, 11, 20, 21, 35};
        for (int events : numbers) {
            StarterBay bay = withEvents(events);
            check.due("count(15)", bay.count(15), events);
            for (int event = 0; event <= 11; event++) {
                boolean isKept = event < Math.min(events, 10);
                check.due("event(" + event + ", 0) of " + events, bay.event(event, 0), isKept ? events - 1 - event : Bays.N);
            }
        }
    }

    @Sentence(of = "EVENTS", says = KEPT)
    static void eachKindByTheSeconds(Check check) {
        StarterBay bay = new StarterBay();
        bay.addMotor(10, 2, 2, 1000);
        bay.addMotor(10, 2, 2, 104);
        bay.request(1);
        check.due("count(15): a request is none", bay.count(15), 0);
        bay.pass(1);
        latest(check, bay, 1, 0, 1, 1);
        bay.pass(1);
        latest(check, bay, 2, 1, 1, 2);
        bay.pass(7);
        check.due("count(15)", bay.count(15), 2);
        bay.pass(1);
        latest(check, bay, 3, 9, 1, 4);
        bay.request(0);
        bay.pass(2);
        bay.losePhases(0, 2);
        check.due("count(15): a loss is none", bay.count(15), 5);
        bay.pass(3);
        latest(check, bay, 6, 14, 0, 5);
        bay.losePhases(0, 0);
        bay.reset(0);
        latest(check, bay, 7, 15, 0, 6);
    }

    @Sentence(of = "EVENTS", says = KEPT)
    static void eachKindByCallsAndItems(Check check) {
        for (int mode = 1; mode <= 3; mode++) {
            StarterBay bay = new StarterBay();
            Bays.inMode(bay, mode);
            int events = bay.count(15);
            bay.stop(0);
            latest(check, bay, events + 1, bay.count(5), 0, 3);
        }
        StarterBay lost = Bays.tripped();
        latest(check, lost, 2, 1, 0, 5);
        lost.losePhases(0, 3);
        lost.losePhases(0, 0);
        check.due("count(15): it has tripped already", lost.count(15), 2);
        lost.reset(0);
        latest(check, lost, 3, 1, 0, 6);
        StarterBay items = new StarterBay();
        Bays.addSmall(items, 2);
        Bays.read(items, "2 start 1;3 lose 1 1;4 lose 1 0;5 reset 1;6 start 1;7 stop 1");
        int[][] due = {{0}, {0}, {1, 2, 1, 1}, {2, 3, 1, 5}, {2, 3, 1, 5}, {3, 5, 1, 6}, {4, 6, 1, 1}, {5, 7, 1, 3}};
        for (int[] one : due) {
            items.pass(1);
            if (one.length == 1) {
                check.due("count(15)", items.count(15), 0);
            } else {
                latest(check, items, one[0], one[1], one[2], one[3]);
            }
        }
    }

    @Sentence(of = "EVENTS", says = KEPT)
    static void whatIsNoEvent(Check check) {
        StarterBay bay = new StarterBay();
        Bays.addSmall(bay, 1);
        bay.setNeed(0, 1);
        bay.setLimit(300);
        bay.setFan(true);
        bay.losePhases(0, 1);
        bay.request(0);
        bay.request(0);
        bay.reset(0);
        Bays.read(bay, "0 fan 0;0 start 0;0 stop 3");
        bay.pass(9);
        bay.keep();
        bay.restore();
        check.due("count(15)", bay.count(15), 0);
    }

    @Sentence(of = "EVENTS", says = TIME)
    static void theClockWhenItHappens(Check check) {
        // A second that begins at the clock 5 has the events of the time 5; a call behind it those of the time 6.
        StarterBay bay = new StarterBay();
        Bays.addSmall(bay, 2);
        bay.pass(5);
        Bays.read(bay, "0 start 0;1 lose 0 4");
        bay.pass(1);
        latest(check, bay, 1, 5, 0, 1);
        bay.pass(1);
        latest(check, bay, 2, 6, 0, 5);
        bay.request(1);
        bay.stop(1);
        latest(check, bay, 3, 7, 1, 3);
    }

    @Sentence(of = "EVENTS", says = TIME)
    static void eachSecondOfALongCall(Check check) {
        StarterBay bay = new StarterBay();
        Bays.addSmall(bay, 3);
        for (int number = 0; number < 3; number++) {
            bay.request(number);
        }
        bay.pass(60);
        // In a second a start is ahead of what point 3 finds.
        int[][] due = {{3, 2, 2}, {2, 1, 2}, {2, 2, 1}, {1, 0, 2}, {1, 1, 1}, {0, 0, 1}};
        for (int event = 0; event < due.length; event++) {
            for (int what = 0; what < 3; what++) {
                check.due("event(" + event + ", " + what + ")", bay.event(event, what), due[event][what]);
            }
        }
        check.due("count(15)", bay.count(15), 6);
    }
}
