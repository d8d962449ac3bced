/** Promises 11 to 13, and how items are carried out. */
public final class TimetableTest {
    public static void main(String[] args) {
        Check check = new Check();
        type(check);
        clearText(check);
        right(check);
        faults(check);
        faultChangesNothing(check);
        fullText(check);
        taking(check);
        carryingOut(check);
        refusedItems(check);
        check.end();
    }

    private static void type(Check check) {
        check.part("promise 11");
        StarterBay bay = new StarterBay();
        char[] odd = {(char) 0, ' ', ';', '\n', (char) 255, (char) 8364, (char) 65535};
        for (int place = 0; place < odd.length; place++) {
            check.due("type", bay.type(odd[place]), place + 1);
        }
        for (int length = odd.length + 1; length <= 80; length++) {
            check.due("type", bay.type('0'), length);
        }
        check.due("count(8)", bay.count(8), 0);
        check.due("type('0') with 80", bay.type('0'), Bays.R);
        check.due("count(8)", bay.count(8), 5);
        check.due("count(17)", bay.count(17), 80);
        check.due("count(16): it is no act", bay.count(16), 0);
        check.due("readTimetable()", bay.readTimetable(), -100);
    }

    private static void clearText(Check check) {
        check.part("promise 12");
        StarterBay bay = new StarterBay();
        check.due("clearText()", bay.clearText(), 0);
        Bays.typeAll(bay, "0 fan 1");
        check.due("clearText()", bay.clearText(), 7);
        check.due("count(17)", bay.count(17), 0);
        check.due("readTimetable()", bay.readTimetable(), -100);
        check.due("type('9')", bay.type('9'), 1);
        check.due("readTimetable()", bay.readTimetable(), -101);
        check.due("count(16)", bay.count(16), 0);
    }

    private static void right(Check check) {
        check.part("promise 13, without a fault");
        String[] texts = {"0 start 0", "9999 stop 7", "10 lose 7 7", "100 reset 3", "7 fan 0", "7 fan 1",
            "0 fan 1;0 fan 0", "5 start 1;5 stop 2;60 lose 0 0;600 reset 7;6000 fan 1", "9 fan 1;10 fan 0"};
        int[] items = {1, 1, 1, 1, 1, 1, 2, 5, 2};
        for (int place = 0; place < texts.length; place++) {
            StarterBay bay = new StarterBay();
            check.due(texts[place], Bays.read(bay, texts[place]), items[place]);
            check.due("count(9)", bay.count(9), items[place]);
            check.due("count(17)", bay.count(17), texts[place].length());
            check.due("count(16)", bay.count(16), 1);
        }
    }

    private static void faults(Check check) {
        check.part("promise 13, faults");
        fault(check, "", 0);
        fault(check, " ", 0);
        fault(check, ";", 0);
        fault(check, " 0 start 0", 0);
        fault(check, "0", 1);
        fault(check, "0 ", 2);
        fault(check, "0;", 1);
        fault(check, "0  start 0", 2);
        fault(check, "0 ;start 0", 2);
        fault(check, "0 start", 7);
        fault(check, "0 start ", 8);
        fault(check, "0 start;0", 7);
        fault(check, "0 start  0", 8);
        fault(check, "0 start ;", 8);
        fault(check, "0 start 0 ", 9);
        fault(check, "0 start 0 1", 9);
        fault(check, "0 start 0;", 10);
        fault(check, "0 start 0;;", 10);
        fault(check, "0 start 0; 1 stop 0", 10);
        fault(check, "0 sta", 2);
        fault(check, "0 starts 0", 2);
        fault(check, "0 Start 0", 2);
        fault(check, "0 tart 0", 2);
        fault(check, "0 fa;", 2);
        fault(check, "0 start 8", 8);
        fault(check, "0 start 9", 8);
        fault(check, "0 start 00", 8);
        fault(check, "0 start 1x", 8);
        fault(check, "0 start -1", 8);
        fault(check, "0 start a", 8);
        fault(check, "0 stop 8", 7);
        fault(check, "0 reset 8", 8);
        fault(check, "0 lose 8 0", 7);
        fault(check, "0 lose 0", 8);
        fault(check, "0 lose 0 ", 9);
        fault(check, "0 lose 0;", 8);
        fault(check, "0 lose 0  1", 9);
        fault(check, "0 lose 0 8", 9);
        fault(check, "0 lose 0 11", 9);
        fault(check, "0 lose 0 1 ", 10);
        fault(check, "0 lose 0 1 1", 10);
        fault(check, "0 lose 0 1;", 11);
        fault(check, "0 fan 2", 6);
        fault(check, "0 fan 1 1", 7);
        fault(check, "0 fan 10", 6);
        fault(check, "00 fan 1", 0);
        fault(check, "01 fan 1", 0);
        fault(check, "10000 fan 1", 0);
        fault(check, "99999999999 fan 1", 0);
        fault(check, "-1 fan 1", 0);
        fault(check, "+1 fan 1", 0);
        fault(check, "1a fan 1", 0);
        fault(check, "x", 0);
        fault(check, "0\tfan 1", 0);
        fault(check, "0 fan\t1", 2);
        fault(check, "0 fan 1\n", 6);
        fault(check, (char) 65296 + " fan 1", 0);
        fault(check, "0 fan " + (char) 1633, 6);
        fault(check, "10 fan 1;9 fan 0", 9);
        fault(check, "10 fan 1;10 fan 0;2 fan 1", 18);
        fault(check, "10 fan 1;010 fan 0", 9);
        fault(check, "10 fan 1;9", 9);
    }

    private static void fault(Check check, String text, int place) {
        StarterBay bay = new StarterBay();
        check.due("\"" + text + "\"", Bays.read(bay, text), -100 - place);
        check.due("count(9) of \"" + text + "\"", bay.count(9), 0);
        check.due("count(16) of \"" + text + "\"", bay.count(16), 0);
        check.due("count(8) of \"" + text + "\"", bay.count(8), 0);
    }

    private static void faultChangesNothing(Check check) {
        check.part("promise 13, after a fault");
        StarterBay bay = new StarterBay();
        Bays.read(bay, "3 fan 1;4 stop 2");
        check.due("readTimetable() with a fault at its end", Bays.read(bay, "7 start 5;8 start 6;9 start"), -127);
        check.due("count(9)", bay.count(9), 2);
        check.due("item(0, 0)", bay.item(0, 0), 3);
        check.due("item(1, 1)", bay.item(1, 1), 1);
        check.due("item(1, 2)", bay.item(1, 2), 2);
    }

    private static void fullText(Check check) {
        check.part("promise 13, full text");
        StarterBay bay = new StarterBay();
        String ten = "0 fan 1;0 fan 0;0 fan 1;0 fan 0;0 fan 1;0 fan 0;0 fan 1;0 fan 0;0 fan 1;0 fan 0";
        check.due("10 items in 79 characters", Bays.read(bay, ten), 10);
        check.due("item(9, 2)", bay.item(9, 2), 0);
        check.due("item(10, 2)", bay.item(10, 2), Bays.N);
        check.due("type(';')", bay.type(';'), 80);
        check.due("readTimetable()", bay.readTimetable(), -180);
        check.due("count(9)", bay.count(9), 10);
        check.due("pass(1)", bay.pass(1), 0);
        check.due("count(9)", bay.count(9), 0);
        check.due("count(7)", bay.count(7), 0);
        String eighty = "10 fan 1;10 fan 0;10 fan 1;10 fan 0;10 fan 1;10 fan 0;10 fan 1;10 fan 0;10 fan";
        check.due("an item that does not fit", Bays.read(bay, eighty), -100 - eighty.length());
    }

    private static void taking(Check check) {
        check.part("promise 13, taking the place");
        StarterBay bay = new StarterBay();
        Bays.read(bay, "5 fan 1;7 fan 0;9 stop 1");
        bay.pass(6);
        check.due("count(9)", bay.count(9), 2);
        check.due("item(0, 0)", bay.item(0, 0), 1);
        check.due("count(7)", bay.count(7), 1);
        check.due("readTimetable() of the same text", bay.readTimetable(), 3);
        check.due("item(0, 0): it is counted from now", bay.item(0, 0), 5);
        check.due("count(17): the text stays", bay.count(17), 24);
        check.due("undo()", bay.undo(), 2);
        check.due("count(9)", bay.count(9), 2);
        check.due("item(0, 0)", bay.item(0, 0), 1);
        check.due("undo()", bay.undo(), 1);
        check.due("count(9)", bay.count(9), 3);
        check.due("count(7)", bay.count(7), 0);
    }

    private static void carryingOut(Check check) {
        check.part("items");
        StarterBay bay = new StarterBay();
        bay.addMotor(10, 2, 2, 60000);
        Bays.read(bay, "0 start 0;1 lose 0 4;1 fan 1;2 lose 0 0;2 reset 0;3 start 0;6 stop 0");
        bay.pass(1);
        check.due("motor(0, 5): it is carried out ahead of the start", bay.motor(0, 5), 2);
        check.due("count(9)", bay.count(9), 6);
        bay.pass(1);
        check.due("motor(0, 5)", bay.motor(0, 5), 4);
        check.due("count(7)", bay.count(7), 1);
        check.due("event(0, 0)", bay.event(0, 0), 1);
        check.due("event(0, 2)", bay.event(0, 2), 5);
        bay.pass(1);
        check.due("motor(0, 5)", bay.motor(0, 5), 0);
        check.due("event(0, 2)", bay.event(0, 2), 6);
        check.due("pass(3)", bay.pass(3), 1);
        check.due("motor(0, 5)", bay.motor(0, 5), 3);
        bay.pass(1);
        check.due("motor(0, 5)", bay.motor(0, 5), 0);
        check.due("event(0, 0)", bay.event(0, 0), 6);
        check.due("count(9)", bay.count(9), 0);
        check.due("count(10)", bay.count(10), 0);
        check.due("count(16): items are no acts", bay.count(16), 4);
        check.due("undo()", bay.undo(), 3);
        check.due("count(5)", bay.count(5), 6);
    }

    private static void refusedItems(Check check) {
        check.part("refused items");
        StarterBay bay = new StarterBay();
        bay.addMotor(10, 2, 2, 60000);
        Bays.read(bay, "0 start 1;0 lose 7 1;0 lose 0 0;0 fan 0");
        bay.pass(1);
        check.due("count(10): those of unknown motors; NONE is no error", bay.count(10), 2);
        check.due("count(8): UNKNOWN sets no reason", bay.count(8), 0);
        Bays.read(bay, "0 stop 0;1 lose 0 1;1 reset 0;9 start 0;9 start 0");
        bay.pass(1);
        check.due("count(10)", bay.count(10), 3);
        check.due("count(8)", bay.count(8), 1);
        bay.undo();
        check.due("count(10) after undo()", bay.count(10), 2);
        check.due("count(8) stays after undo()", bay.count(8), 1);
        bay.pass(60);
        check.due("count(10)", bay.count(10), 5);
        StarterBay tripped = Bays.tripped();
        Bays.read(tripped, "1 reset 0");
        tripped.pass(1);
        check.due("count(10)", tripped.count(10), 0);
        tripped.pass(1);
        check.due("count(10)", tripped.count(10), 1);
        check.due("count(8)", tripped.count(8), 4);
    }
}
