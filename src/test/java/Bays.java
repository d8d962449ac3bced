/** Bays that several tests begin with. */
final class Bays {
    static final int U = StarterBay.UNKNOWN;
    static final int B = StarterBay.BAD_VALUE;
    static final int R = StarterBay.REFUSED;
    static final int N = StarterBay.NONE;

    private Bays() {
    }

    /** Types a text behind the one that is there. */
    static void typeAll(StarterBay bay, String text) {
        for (int place = 0; place < text.length(); place++) {
            bay.type(text.charAt(place));
        }
    }

    /** Puts a text in place of the one that is there, and reads it. */
    static int read(StarterBay bay, String text) {
        bay.clearText();
        typeAll(bay, text);
        return bay.readTimetable();
    }

    /** Lets any number of seconds pass, and answers how many motors started in them. */
    static int passLong(StarterBay bay, int seconds) {
        int started = 0;
        for (int left = seconds; left > 0; left -= 60) {
            started += bay.pass(Math.min(left, 60));
        }
        return started;
    }

    /** Adds motors of 10 A, 2 s, factor 2 (10 and 20 A: a start heat of 50) with a limit of heat of 1000. */
    static void addSmall(StarterBay bay, int motors) {
        for (int added = 0; added < motors; added++) {
            bay.addMotor(10, 2, 2, 1000);
        }
    }

    /**
     * Makes the motor 0 of an empty bay (10 A, 5 s, factor 2: 4, 8, 12, 16 and 20 A; a limit of heat of 1000),
     * and brings it into a mode, with no phase lost, by at most three acts: there is room in the history.
     */
    static void inMode(StarterBay bay, int mode) {
        bay.addMotor(10, 5, 2, 1000);
        if (mode == 4) {
            read(bay, "0 start 0;1 lose 0 1;1 lose 0 0");
            bay.clearText();
            bay.pass(2);
            return;
        }
        if (mode != 0) {
            bay.request(0);
        }
        if (mode > 1) {
            bay.pass(mode == 2 ? 1 : 5);
        }
    }

    /** A bay with one small motor that is running at the clock 2 with the heat 48. */
    static StarterBay running(int limitOfHeat) {
        StarterBay bay = new StarterBay();
        run(bay, 10, limitOfHeat);
        return bay;
    }

    /** Makes the motor 0 of an empty bay (2 s, factor 2), which is running at the clock 2. */
    static void run(StarterBay bay, int rated, int limitOfHeat) {
        bay.addMotor(rated, 2, 2, limitOfHeat);
        bay.request(0);
        bay.pass(2);
    }

    /** A bay with one motor that has tripped for a lost phase while starting; the phase 0 is still lost. */
    static StarterBay tripped() {
        StarterBay bay = new StarterBay();
        bay.addMotor(10, 2, 2, 1000);
        bay.request(0);
        bay.pass(1);
        bay.losePhases(0, 1);
        return bay;
    }

    /** A bay with a motor that trips for heat in its tenth second, with the heat 105 of 104. */
    static StarterBay hot() {
        StarterBay bay = running(104);
        bay.pass(8);
        return bay;
    }
}
