/** The sentences under MOTORS. */
public final class MotorsTermTest {
    private static final String HAS = "A motor has a rated current (1 to 100), a ramp (2 to 30 seconds), a factor (2 to 6), a "
            + "limit of its heat (100 to 60000) and a need (0 to 9, at first 5).";
    private static final String HOLDS = "It holds an amount of heat (0 at first), and some of its three phases can be lost "
            + "(none at first), which are told as a bit set (the bit k for the phase k).";

    public static void main(String[] args) {
        Check.all(MotorsTermTest.class);
    }

    private static void addEight(StarterBay bay) {
        for (int number = 0; number < 8; number++) {
            bay.addMotor(10 + number, 5, 2, 1000);
        }
    }

    @Sentence(of = "MOTORS",
            says = "There are at most 8 motors, numbered from 0 in the order in which they were added.")
    static void eightMotorsInTheirOrder(Check check) {
        StarterBay bay = new StarterBay();
        for (int number = 0; number < 8; number++) {
            check.due("count(0)", bay.count(0), number);
            check.due("motor(" + number + ", 0) ahead of it", bay.motor(number, 0), Bays.U);
            check.due("addMotor", bay.addMotor(10 + number, 5, 2, 1000), number);
        }
        check.due("count(0)", bay.count(0), 8);
        for (int number = 0; number < 8; number++) {
            check.due("motor(" + number + ", 0)", bay.motor(number, 0), 10 + number);
        }
        check.due("motor(8, 0)", bay.motor(8, 0), Bays.U);
        Twins.refused(check, "the ninth addMotor", MotorsTermTest::addEight, twin -> twin.addMotor(50, 5, 2, 1000), 5);
    }

    @Sentence(of = "MOTORS", says = HAS)
    static void whatAMotorHas(Check check) {
        int[] least = {1, 2, 2, 100};
        int[] most = {100, 30, 6, 60000};
        for (int place = 0; place < 4; place++) {
            int[] values = {50, 10, 4, 5000};
            addOutside(check, values, place, least[place] - 1);
            addInside(check, values, place, least[place]);
            addInside(check, values, place, most[place]);
            addOutside(check, values, place, most[place] + 1);
        }
    }

    private static void addInside(Check check, int[] values, int place, int value) {
        values[place] = value;
        StarterBay bay = new StarterBay();
        check.due("addMotor", bay.addMotor(values[0], values[1], values[2], values[3]), 0);
        for (int what = 0; what < 4; what++) {
            check.due("motor(0, " + what + ")", bay.motor(0, what), values[what]);
        }
        check.due("motor(0, 4)", bay.motor(0, 4), 5);
    }

    private static void addOutside(Check check, int[] values, int place, int value) {
        values[place] = value;
        Twins.stays(check, "addMotor with " + value + " in the place " + place, bay -> Bays.addSmall(bay, 1),
                bay -> bay.addMotor(values[0], values[1], values[2], values[3]), Bays.B);
    }

    @Sentence(of = "MOTORS", says = HAS)
    static void needFromZeroToNine(Check check) {
        StarterBay bay = new StarterBay();
        Bays.addSmall(bay, 2);
        check.due("motor(0, 4) at first", bay.motor(0, 4), 5);
        check.due("setNeed(0, 0)", bay.setNeed(0, 0), 5);
        check.due("setNeed(0, 9)", bay.setNeed(0, 9), 0);
        check.due("motor(0, 4)", bay.motor(0, 4), 9);
        check.due("motor(1, 4): the other one keeps its own", bay.motor(1, 4), 5);
        Twins.stays(check, "setNeed(0, -1)", twin -> Bays.addSmall(twin, 1), twin -> twin.setNeed(0, -1), Bays.B);
        Twins.stays(check, "setNeed(0, 10)", twin -> Bays.addSmall(twin, 1), twin -> twin.setNeed(0, 10), Bays.B);
    }

    @Sentence(of = "MOTORS", says = "It is always in one of five modes: 0 stopped (at first), 1 waiting, 2 starting, "
            + "3 running, 4 tripped.")
    static void fiveModes(Check check) {
        StarterBay bay = new StarterBay();
        Bays.addSmall(bay, 1);
        check.due("motor(0, 5) at first", bay.motor(0, 5), 0);
        bay.request(0);
        check.due("motor(0, 5) when it is requested", bay.motor(0, 5), 1);
        bay.pass(1);
        check.due("motor(0, 5) in its ramp", bay.motor(0, 5), 2);
        bay.pass(1);
        check.due("motor(0, 5) behind its ramp", bay.motor(0, 5), 3);
        bay.losePhases(0, 1);
        bay.pass(3);
        check.due("motor(0, 5) when it has tripped", bay.motor(0, 5), 4);
        bay.losePhases(0, 0);
        bay.reset(0);
        check.due("motor(0, 5) when it is reset", bay.motor(0, 5), 0);
        bay.request(0);
        bay.stop(0);
        check.due("motor(0, 5) when it is stopped", bay.motor(0, 5), 0);
    }

    @Sentence(of = "MOTORS", says = "It turns if it is starting or running.")
    static void whenItTurns(Check check) {
        for (int mode = 0; mode <= 4; mode++) {
            StarterBay bay = new StarterBay();
            Bays.inMode(bay, mode);
            if (mode == 1) {
                bay.losePhases(0, 1);
            }
            int turned = bay.account(0, 4);
            bay.pass(1);
            check.due("motor(0, 5)", bay.motor(0, 5), mode);
            check.due("account(0, 4) in the mode " + mode, bay.account(0, 4), turned + (mode == 2 || mode == 3 ? 1 : 0));
        }
    }

    @Sentence(of = "MOTORS", says = HOLDS)
    static void heatAndPhasesAtFirst(Check check) {
        StarterBay bay = new StarterBay();
        Bays.addSmall(bay, 8);
        for (int number = 0; number < 8; number++) {
            check.due("motor(" + number + ", 6)", bay.motor(number, 6), 0);
            check.due("motor(" + number + ", 7)", bay.motor(number, 7), 0);
        }
    }

    @Sentence(of = "MOTORS", says = HOLDS)
    static void eachSetOfPhases(Check check) {
        StarterBay bay = new StarterBay();
        Bays.addSmall(bay, 2);
        bay.request(0);
        for (int set = 1; set <= 7; set++) {
            check.due("losePhases(0, " + set + ")", bay.losePhases(0, set), set - 1);
            check.due("motor(0, 7)", bay.motor(0, 7), set);
            check.due("whyNot(0): any of them counts", bay.whyNot(0), 4);
            check.due("motor(1, 7): the other one has lost none", bay.motor(1, 7), 0);
        }
        check.due("losePhases(0, 0)", bay.losePhases(0, 0), 7);
        check.due("motor(0, 7)", bay.motor(0, 7), 0);
        check.due("whyNot(0)", bay.whyNot(0), 0);
        Twins.stays(check, "losePhases(0, 8): there is no phase 3", twin -> Bays.addSmall(twin, 1),
                twin -> twin.losePhases(0, 8), Bays.B);
    }
}
