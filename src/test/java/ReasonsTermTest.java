/** The sentences under REASONS. */
public final class ReasonsTermTest {
    private static final String SET = "A call that is refused, and an item that is refused, if its call would return REFUSED, "
            + "set the reason: 1 it is not in a mode in which this is possible; 2 heat; 4 phases; 5 there is no more room.";
    private static final String STAYS = "The reason is 0 at first, and stays until the next one is set.";

    public static void main(String[] args) {
        Check.all(ReasonsTermTest.class);
    }

    @Sentence(of = "REASONS", says = SET)
    static void notInAModeInWhichThisIsPossible(Check check) {
        for (int mode = 0; mode <= 4; mode++) {
            int brought = mode;
            Twins.Calls before = bay -> Bays.inMode(bay, brought);
            if (mode != 0) {
                Twins.refused(check, "request(0) in the mode " + mode, before, bay -> bay.request(0), 1);
            }
            if (mode == 0 || mode == 4) {
                Twins.refused(check, "stop(0) in the mode " + mode, before, bay -> bay.stop(0), 1);
            }
            if (mode != 4) {
                Twins.refused(check, "reset(0) in the mode " + mode, before, bay -> bay.reset(0), 1);
            }
        }
    }

    @Sentence(of = "REASONS", says = SET)
    static void heatPhasesAndRoom(Check check) {
        Twins.refused(check, "reset(0), hot", bay -> {
            Bays.run(bay, 10, 104);
            bay.pass(8);
        }, bay -> bay.reset(0), 2);
        Twins.refused(check, "reset(0) without a phase", bay -> {
            Bays.inMode(bay, 4);
            bay.losePhases(0, 4);
        }, bay -> bay.reset(0), 4);
        Twins.refused(check, "the ninth addMotor", bay -> Bays.addSmall(bay, 8), bay -> bay.addMotor(10, 2, 2, 1000), 5);
        Twins.refused(check, "the 81st character", bay -> {
            for (int place = 0; place < 80; place++) {
                bay.type('0');
            }
        }, bay -> bay.type('0'), 5);
    }

    // {the mode of the motor 0, whether it loses a phase, the item, the reason}
    @Sentence(of = "REASONS", says = SET)
    static void reasonsOfItems(Check check) {
        String[][] cases = {{"1", "", "start 0", "1"}, {"2", "", "start 0", "1"}, {"3", "", "start 0", "1"},
            {"4", "", "start 0", "1"}, {"0", "", "stop 0", "1"}, {"4", "", "stop 0", "1"}, {"0", "", "reset 0", "1"},
            {"1", "lost", "reset 0", "1"}, {"3", "lost", "reset 0", "1"}, {"4", "lost", "reset 0", "4"}};
        for (String[] one : cases) {
            StarterBay bay = new StarterBay();
            Bays.inMode(bay, Integer.parseInt(one[0]));
            if (one[1].equals("lost")) {
                bay.losePhases(0, 1);
            }
            Bays.read(bay, "0 " + one[2]);
            check.due("count(8) ahead of the second", bay.count(8), 0);
            bay.pass(1);
            check.due("count(8) by " + one[2] + " in the mode " + one[0] + one[1], bay.count(8), Integer.parseInt(one[3]));
        }
        StarterBay hot = Bays.hot();
        Bays.read(hot, "0 reset 0");
        hot.pass(1);
        check.due("count(8) by reset 0, hot", hot.count(8), 2);
    }

    @Sentence(of = "REASONS", says = SET)
    static void itemsThatWouldNotReturnRefused(Check check) {
        String[] items = {"start 1", "stop 1", "lose 1 1", "reset 1", "fan 0", "lose 0 0"};
        for (String item : items) {
            StarterBay bay = new StarterBay();
            Bays.addSmall(bay, 1);
            Bays.read(bay, "0 " + item);
            bay.pass(1);
            check.due("count(8) by " + item, bay.count(8), 0);
            Bays.read(bay, "0 reset 0;0 " + item);
            bay.pass(1);
            check.due("count(8): " + item + " does not set it back", bay.count(8), 1);
        }
    }

    @Sentence(of = "REASONS", says = SET)
    static void whyNotSetsNone(Check check) {
        StarterBay bay = new StarterBay();
        Bays.addSmall(bay, 1);
        bay.losePhases(0, 1);
        bay.request(0);
        check.due("whyNot(0)", bay.whyNot(0), 4);
        bay.pass(5);
        check.due("count(8): the motor could not start, but nothing was refused", bay.count(8), 0);
    }

    @Sentence(of = "REASONS", says = STAYS)
    static void untilTheNextOne(Check check) {
        StarterBay bay = new StarterBay();
        check.due("count(8) at first", bay.count(8), 0);
        Bays.run(bay, 10, 104);
        bay.request(0);
        check.due("count(8)", bay.count(8), 1);
        bay.pass(8);
        bay.reset(0);
        check.due("count(8)", bay.count(8), 2);
        bay.losePhases(0, 1);
        bay.reset(0);
        check.due("count(8)", bay.count(8), 4);
        for (int place = 0; place <= 80; place++) {
            bay.type('x');
        }
        check.due("count(8)", bay.count(8), 5);
        bay.stop(0);
        check.due("count(8)", bay.count(8), 1);
    }

    @Sentence(of = "REASONS", says = STAYS)
    static void nothingElseSetsIt(Check check) {
        Twins.Call[] calls = {bay -> bay.addMotor(10, 2, 2, 1000), bay -> bay.addMotor(0, 0, 0, 0), bay -> bay.setNeed(0, 1),
            bay -> bay.setNeed(0, 5), bay -> bay.setNeed(9, 5), bay -> bay.setLimit(50), bay -> bay.setLimit(5),
            bay -> bay.setFan(true), bay -> bay.setFan(false), bay -> bay.request(0), bay -> bay.request(9),
            bay -> bay.stop(9), bay -> bay.losePhases(0, 1), bay -> bay.losePhases(0, 9), bay -> bay.reset(9),
            bay -> bay.pass(60), bay -> bay.pass(61), bay -> bay.type('x'), StarterBay::clearText, StarterBay::readTimetable,
            StarterBay::undo, StarterBay::keep, StarterBay::restore, bay -> bay.whyNot(0), bay -> bay.count(99)};
        for (int place = 0; place < calls.length; place++) {
            StarterBay bay = new StarterBay();
            Bays.addSmall(bay, 1);
            bay.keep();
            bay.stop(0);
            check.due("count(8)", bay.count(8), 1);
            check.yes("the call " + place + " is not refused", calls[place].on(bay) != Bays.R);
            check.due("count(8) behind the call " + place, bay.count(8), 1);
        }
    }
}
