/** Promises 1 to 5. */
public final class MotorsTest {
    public static void main(String[] args) {
        Check check = new Check();
        newObject(check);
        addMotor(check);
        addMotorAfterUndo(check);
        setNeed(check);
        setLimit(check);
        setFan(check);
        check.end();
    }

    private static void newObject(Check check) {
        check.part("promise 1");
        StarterBay bay = new StarterBay();
        for (int what = 0; what <= 17; what++) {
            check.due("count(" + what + ")", bay.count(what), what == 6 ? 500 : 0);
        }
        check.due("motor(0, 0)", bay.motor(0, 0), Bays.U);
        check.due("queue(0)", bay.queue(0), Bays.N);
        check.due("event(0, 0)", bay.event(0, 0), Bays.N);
        check.due("item(0, 0)", bay.item(0, 0), Bays.N);
        check.due("undo()", bay.undo(), Bays.N);
        check.due("restore()", bay.restore(), Bays.N);
        check.due("clearText()", bay.clearText(), 0);
        check.due("pass(60)", bay.pass(60), 0);
        check.due("count(5)", bay.count(5), 60);
    }

    private static void addMotor(Check check) {
        check.part("promise 2");
        StarterBay bay = new StarterBay();
        int[][] outside = {{0, 2, 2, 100}, {101, 2, 2, 100}, {1, 1, 2, 100}, {1, 31, 2, 100}, {1, 2, 1, 100},
            {1, 2, 7, 100}, {1, 2, 2, 99}, {1, 2, 2, 60001}, {Integer.MIN_VALUE, 2, 2, 100},
            {1, Integer.MAX_VALUE, 2, 100}, {1, 2, -1, 100}, {1, 2, 2, Integer.MIN_VALUE}};
        for (int[] a : outside) {
            check.due("addMotor out of range", bay.addMotor(a[0], a[1], a[2], a[3]), Bays.B);
        }
        check.due("count(0)", bay.count(0), 0);
        check.due("count(16)", bay.count(16), 0);
        check.due("addMotor(1, 2, 2, 100)", bay.addMotor(1, 2, 2, 100), 0);
        check.due("addMotor(100, 30, 6, 60000)", bay.addMotor(100, 30, 6, 60000), 1);
        int[] settings = {100, 30, 6, 60000, 5, 0, 0, 0, Bays.N, Bays.N, 0, Bays.N, 60000};
        for (int what = 0; what < settings.length; what++) {
            check.due("motor(1, " + what + ")", bay.motor(1, what), settings[what]);
        }
        for (int number = 2; number < 8; number++) {
            check.due("addMotor", bay.addMotor(5, 5, 5, 500), number);
        }
        check.due("count(8)", bay.count(8), 0);
        check.due("addMotor with a wrong rated one too many", bay.addMotor(0, 5, 5, 500), Bays.B);
        check.due("count(8)", bay.count(8), 0);
        check.due("addMotor one too many", bay.addMotor(5, 5, 5, 500), Bays.R);
        check.due("count(8)", bay.count(8), 5);
        check.due("count(0)", bay.count(0), 8);
        check.due("motor(8, 0)", bay.motor(8, 0), Bays.U);
    }

    private static void addMotorAfterUndo(Check check) {
        check.part("promise 2 after undo");
        StarterBay bay = new StarterBay();
        bay.keep();
        bay.addMotor(10, 2, 2, 1000);
        bay.setNeed(0, 9);
        bay.request(0);
        bay.pass(1);
        bay.losePhases(0, 5);
        bay.restore();
        check.due("count(0)", bay.count(0), 0);
        check.due("addMotor(20, 3, 3, 600)", bay.addMotor(20, 3, 3, 600), 0);
        int[] settings = {20, 3, 3, 600, 5, 0, 0, 0, Bays.N, Bays.N, 0, Bays.N, 600};
        for (int what = 0; what < settings.length; what++) {
            check.due("motor(0, " + what + ")", bay.motor(0, what), settings[what]);
        }
        for (int what = 0; what < 7; what++) {
            check.due("account(0, " + what + ")", bay.account(0, what), 0);
        }
        check.due("startHeat(0)", bay.startHeat(0), 40 + 160 + 360);
    }

    private static void setNeed(Check check) {
        check.part("promise 3");
        StarterBay bay = new StarterBay();
        check.due("setNeed(0, 10)", bay.setNeed(0, 10), Bays.U);
        bay.addMotor(1, 2, 2, 100);
        check.due("setNeed(-1, 5)", bay.setNeed(-1, 5), Bays.U);
        check.due("setNeed(1, 5)", bay.setNeed(1, 5), Bays.U);
        check.due("setNeed(0, -1)", bay.setNeed(0, -1), Bays.B);
        check.due("setNeed(0, 10)", bay.setNeed(0, 10), Bays.B);
        check.due("setNeed(0, 5)", bay.setNeed(0, 5), Bays.N);
        check.due("count(16)", bay.count(16), 1);
        check.due("setNeed(0, 0)", bay.setNeed(0, 0), 5);
        check.due("setNeed(0, 9)", bay.setNeed(0, 9), 0);
        check.due("motor(0, 4)", bay.motor(0, 4), 9);
        check.due("count(16)", bay.count(16), 3);
        check.due("undo()", bay.undo(), 2);
        check.due("motor(0, 4)", bay.motor(0, 4), 0);
    }

    private static void setLimit(Check check) {
        check.part("promise 4");
        StarterBay bay = new StarterBay();
        check.due("setLimit(9)", bay.setLimit(9), Bays.B);
        check.due("setLimit(2001)", bay.setLimit(2001), Bays.B);
        check.due("setLimit(-500)", bay.setLimit(-500), Bays.B);
        check.due("setLimit(500)", bay.setLimit(500), Bays.N);
        check.due("count(16)", bay.count(16), 0);
        check.due("setLimit(10)", bay.setLimit(10), 500);
        check.due("setLimit(2000)", bay.setLimit(2000), 10);
        check.due("count(6)", bay.count(6), 2000);
        check.due("count(16)", bay.count(16), 2);
        check.due("undo()", bay.undo(), 1);
        check.due("count(6)", bay.count(6), 10);
    }

    private static void setFan(Check check) {
        check.part("promise 5");
        StarterBay bay = new StarterBay();
        check.due("setFan(false)", bay.setFan(false), Bays.N);
        check.due("setFan(true)", bay.setFan(true), 1);
        check.due("setFan(true)", bay.setFan(true), Bays.N);
        check.due("count(7)", bay.count(7), 1);
        check.due("setFan(false)", bay.setFan(false), 0);
        check.due("count(7)", bay.count(7), 0);
        check.due("count(16)", bay.count(16), 2);
        check.due("undo()", bay.undo(), 1);
        check.due("count(7)", bay.count(7), 1);
    }
}
