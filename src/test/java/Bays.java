/** Bays that several tests begin with. */
final class Bays {
    static final int U = StarterBay.UNKNOWN;
    static final int B = StarterBay.BAD_VALUE;
    static final int R = StarterBay.REFUSED;
    static final int N = StarterBay.NONE;

    private Bays() {
    }

    /** Types a text behind the one that is there. */
    static void typeAll(StarterBay bay, String text) {
        for (int place = 0; place < text.length(); place++) {
            bay.type(text.charAt(place));
        }
    }

    /** Puts a text in place of the one that is there, and reads it. */
    static int read(StarterBay bay, String text) {
        bay.clearText();
        typeAll(bay, text);
        return bay.readTimetable();
    }

    /** Lets any number of seconds pass, and answers how many motors started in them. */
    static int passLong(StarterBay bay, int seconds) {
        int started = 0;
        for (int left = seconds; left > 0; left -= 60) {
            started += bay.pass(Math.min(left, 60));
        }
        return started;
    }

    /** A bay with one small motor (10 A, 2 s, factor 2) that is running at the clock 2 with the heat 48. */
    static StarterBay running(int limitOfHeat) {
        StarterBay bay = new StarterBay();
        bay.addMotor(10, 2, 2, limitOfHeat);
        bay.request(0);
        bay.pass(2);
        return bay;
    }

    /** A bay with one motor that has tripped for a lost phase while starting; the phase 0 is still lost. */
    static StarterBay tripped() {
        StarterBay bay = new StarterBay();
        bay.addMotor(10, 2, 2, 1000);
        bay.request(0);
        bay.pass(1);
        bay.losePhases(0, 1);
        return bay;
    }
}
