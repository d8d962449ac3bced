/** Bays that were made by the same calls: one of them gets a call more, and all that both tell is compared. */
final class Twins {
    interface Calls {
        void on(StarterBay bay);
    }

    interface Call {
        int on(StarterBay bay);
    }

    // What a bay does not tell (text, history, snapshot, the seconds of a loss) shows in what comes later.
    private static final Call[] LATER = {
        bay -> 0, bay -> bay.pass(1), bay -> bay.pass(60), StarterBay::restore, StarterBay::readTimetable,
        bay -> undo(bay, 1), bay -> undo(bay, 2), bay -> undo(bay, 3), bay -> undo(bay, 4),
    };
    private static final String[] LATER_NAMES = {
        "at once", "after pass(1)", "after pass(60)", "after restore()", "after readTimetable()",
        "after 1 undo()", "after 2 undo()", "after 3 undo()", "after 4 undo()",
    };

    private Twins() {
    }

    /** The call answers what is due, and changes nothing. */
    static void stays(Check check, String call, Calls before, Call tried, int due) {
        compare(check, call, before, bay -> check.due(call, tried.on(bay), due));
    }

    /** The call is refused for the reason, and changes nothing but the reason. */
    static void refused(Check check, String call, Calls before, Call tried, int reason) {
        compare(check, call, before, bay -> {
            check.due(call, tried.on(bay), StarterBay.REFUSED);
            check.due("count(8) after " + call, bay.count(8), reason);
        }, "count(8)");
    }

    /** The act answers what is due and records a state, and undo() brings all back that was before it. */
    static void undone(Check check, String call, Calls before, Call act, int due) {
        StarterBay bay = new StarterBay();
        before.on(bay);
        int states = bay.count(16);
        check.yes("there is room in the history ahead of " + call, states < 4);
        check.due(call, act.on(bay), due);
        check.due("count(16) after " + call, bay.count(16), states + 1);
        compare(check, call + " and undo()", before, twin -> {
            act.on(twin);
            check.due("undo() of " + call, twin.undo(), states);
        });
    }

    private static void compare(Check check, String call, Calls before, Calls more, String... apart) {
        for (int later = 0; later < LATER.length; later++) {
            StarterBay plain = new StarterBay();
            before.on(plain);
            StarterBay twin = new StarterBay();
            before.on(twin);
            more.on(twin);
            String when = call + " changes nothing, " + LATER_NAMES[later];
            check.due(when, LATER[later].on(twin), LATER[later].on(plain));
            String difference = Everything.difference(Everything.without(Everything.of(twin), apart),
                    Everything.without(Everything.of(plain), apart));
            check.yes(when + (difference.isEmpty() ? "" : ": " + difference), difference.isEmpty());
        }
    }

    private static int undo(StarterBay bay, int times) {
        int answer = 0;
        for (int time = 0; time < times; time++) {
            answer = bay.undo();
        }
        return answer;
    }
}
