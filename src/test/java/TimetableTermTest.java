/** The sentences under TIMETABLE. */
public final class TimetableTermTest {
    private static final String VALUES = "The time T has 1 to 4 digits, without zeros in front (unless it is the single digit "
            + "0), and is not less than the time of the item ahead; M and P are digits from 0 to 7; B is 0 or 1.";
    private static final String COUNTED = "The times are counted from the time at which the timetable is read: an item is due "
            + "when so many seconds have passed.";
    private static final String REFUSED = "An item whose call would return an error is not carried out, and counts as refused.";
    private static final String FAULT = "The fault of the text is the index, from 0, of the first character of a word or number "
            + "(what stands up to the next blank, \";\" or the end of the text) that is not one of these at its place (if it is "
            + "empty, of what stands there instead), or of a blank or \";\" that stands where the other one, or the end, has to "
            + "be; or the length of the text, if all before is right and it ends too early (the empty text does, and one that "
            + "ends with \";\").";

    public static void main(String[] args) {
        Check.all(TimetableTermTest.class);
    }

    /** A text with a fault answers its place and changes nothing; the items of an earlier timetable are left. */
    private static void fault(Check check, String text, int place) {
        StarterBay bay = new StarterBay();
        Bays.read(bay, "5 fan 1");
        check.due("\"" + text + "\"", Bays.read(bay, text), -100 - place);
        check.due("count(9) of \"" + text + "\"", bay.count(9), 1);
        check.due("count(16) of \"" + text + "\"", bay.count(16), 1);
        check.due("count(8) of \"" + text + "\"", bay.count(8), 0);
        check.due("count(17) of \"" + text + "\"", bay.count(17), text.length());
    }

    private static void right(Check check, String text, int items) {
        StarterBay bay = new StarterBay();
        check.due("\"" + text + "\"", Bays.read(bay, text), items);
        check.due("count(9) of \"" + text + "\"", bay.count(9), items);
        check.due("count(17) of \"" + text + "\"", bay.count(17), text.length());
    }

    private static void item(Check check, StarterBay bay, int item, int... due) {
        for (int what = 0; what < 4; what++) {
            check.due("item(" + item + ", " + what + ")", bay.item(item, what), due[what]);
        }
    }

    @Sentence(of = "TIMETABLE", says = "There is a text of at most 80 characters, empty at first.")
    static void eightyCharacters(Check check) {
        StarterBay bay = new StarterBay();
        check.due("count(17) at first", bay.count(17), 0);
        check.due("readTimetable() at first", bay.readTimetable(), -100);
        for (int length = 1; length <= 80; length++) {
            check.due("type", bay.type('7'), length);
            check.due("count(17)", bay.count(17), length);
        }
        Twins.refused(check, "type('7') with 80", twin -> {
            Bays.typeAll(twin, "0 fan 1;0 fan 0;0 fan 1;0 fan 0;0 fan 1;0 fan 0;0 fan 1;0 fan 0;0 fan 1;10 fan 0");
            check.due("count(17)", twin.count(17), 80);
        }, twin -> twin.type('7'), 5);
    }

    @Sentence(of = "TIMETABLE", says = "A timetable is a row of items that are separated by \";\".")
    static void aRowOfItems(Check check) {
        right(check, "0 fan 1", 1);
        right(check, "0 fan 1;0 fan 0", 2);
        right(check, "5 start 1;5 stop 2;60 lose 0 0;600 reset 7;6000 fan 1", 5);
        right(check, "0 fan 1;0 fan 0;0 fan 1;0 fan 0;0 fan 1;0 fan 0;0 fan 1;0 fan 0;0 fan 1;10 fan 0", 10);
        StarterBay bay = new StarterBay();
        Bays.read(bay, "1 start 2;3 lose 4 5;6 fan 0");
        item(check, bay, 0, 1, 0, 2, Bays.N);
        item(check, bay, 1, 3, 2, 4, 5);
        item(check, bay, 2, 6, 4, 0, Bays.N);
        fault(check, "0 fan 1,0 fan 0", 6);
        fault(check, "0 fan 1 0 fan 0", 7);
        fault(check, ";0 fan 1", 0);
        fault(check, "0 fan 1;;0 fan 0", 8);
        fault(check, "0 fan 1;", 8);
    }

    @Sentence(of = "TIMETABLE", says = {"An item is a time, a word and numbers, with single blanks between them:",
        "T start M | T stop M | T lose M P | T reset M | T fan B"})
    static void eachWordWithItsNumbers(Check check) {
        right(check, "0 start 0", 1);
        right(check, "0 stop 0", 1);
        right(check, "0 lose 0 0", 1);
        right(check, "0 reset 0", 1);
        right(check, "0 fan 0", 1);
        String[] words = {"start", "stop", "reset", "fan"};
        for (String word : words) {
            int end = word.length() + 4;
            fault(check, "0 " + word + " 0 0", end);
            fault(check, "0 " + word + " ", end - 1);
            fault(check, "0 " + word, end - 2);
        }
        fault(check, "0 lose 0", 8);
        fault(check, "0 lose 0;0 fan 1", 8);
        fault(check, "0 lose 0 0 0", 10);
        fault(check, "start 0", 0);
        fault(check, "0 0", 2);
    }

    @Sentence(of = "TIMETABLE", says = {"An item is a time, a word and numbers, with single blanks between them:",
        "T start M | T stop M | T lose M P | T reset M | T fan B"})
    static void singleBlanks(Check check) {
        fault(check, "0  lose 1 2", 2);
        fault(check, "0 lose  1 2", 7);
        fault(check, "0 lose 1  2", 9);
        fault(check, "0\tlose 1 2", 0);
        fault(check, "0 lose\t1 2", 2);
        fault(check, "0 lose 1\t2", 7);
        fault(check, " 0 lose 1 2", 0);
        fault(check, "0 lose 1 2 ", 10);
        fault(check, "0 lose 1 2 ;0 fan 1", 10);
        fault(check, "0 lose 1 2; 0 fan 1", 11);
    }

    // Both bays read a timetable; an item does in the one what a call does in the other.
    @Sentence(of = "TIMETABLE",
            says = "They stand for request(M), stop(M), losePhases(M, P), reset(M) and setFan(B is 1).")
    static void whatTheyStandFor(Check check) {
        String[] items = {"0 start 1", "0 stop 1", "0 lose 1 6", "0 reset 1", "0 fan 1", "0 fan 0", "0 start 1", "0 lose 1 0"};
        Twins.Call[] calls = {bay -> bay.request(1), bay -> bay.stop(1), bay -> bay.losePhases(1, 6), bay -> bay.reset(1),
            bay -> bay.setFan(true), bay -> bay.setFan(false), bay -> bay.request(1), bay -> bay.losePhases(1, 0)};
        String[] ahead = {"", "start", "start", "trip", "", "fan", "lose", "lose"};
        for (int place = 0; place < items.length; place++) {
            StarterBay byItem = prepared(ahead[place]);
            Bays.read(byItem, items[place]);
            byItem.pass(1);
            StarterBay byCall = prepared(ahead[place]);
            Bays.read(byCall, "9 fan 0");
            check.yes(items[place] + " can be carried out", calls[place].on(byCall) >= 0);
            byCall.pass(1);
            // The other timetable has an item left.
            String[] apart = {"count(9)", "count(17)", "item(0, 0)", "item(0, 1)", "item(0, 2)", "item(0, 3)", "item(1, 0)",
                "item(1, 1)", "item(1, 2)", "item(1, 3)"};
            String difference = Everything.difference(Everything.without(Everything.of(byItem), apart),
                    Everything.without(Everything.of(byCall), apart));
            check.yes(items[place] + " does what its call does, but: " + difference, difference.isEmpty());
        }
    }

    // Four acts fill the history, so that it tells no difference.
    private static StarterBay prepared(String ahead) {
        StarterBay bay = new StarterBay();
        bay.setLimit(400);
        bay.setLimit(300);
        Bays.addSmall(bay, 3);
        bay.request(2);
        if (ahead.equals("lose")) {
            bay.losePhases(1, 2);
        }
        if (ahead.equals("start") || ahead.equals("trip")) {
            bay.request(1);
            bay.pass(1);
        }
        if (ahead.equals("trip")) {
            bay.losePhases(1, 1);
            bay.losePhases(1, 0);
        }
        bay.setFan(ahead.equals("fan"));
        return bay;
    }

    @Sentence(of = "TIMETABLE", says = VALUES)
    static void theTime(Check check) {
        String[] good = {"0", "1", "9", "10", "99", "100", "999", "1000", "9999"};
        for (String time : good) {
            right(check, time + " fan 1", 1);
            StarterBay bay = new StarterBay();
            Bays.read(bay, time + " fan 1");
            check.due("item(0, 0) of " + time, bay.item(0, 0), Integer.parseInt(time));
        }
        String[] bad = {"00", "01", "000", "0000", "00000", "0999", "09999", "10000", "99999", "4294967296", "-1", "+1", "1.0",
            "1a", "a1", "1000x", "/", ":", "1/", "1:", "\u0661", "\uff10"};
        for (String time : bad) {
            fault(check, time + " fan 1", 0);
            fault(check, "0 fan 1;" + time + " fan 0", 8);
        }
    }

    @Sentence(of = "TIMETABLE", says = VALUES)
    static void notLessThanTheTimeAhead(Check check) {
        right(check, "10 fan 1;10 fan 0", 2);
        right(check, "9 fan 1;10 fan 0", 2);
        right(check, "9998 fan 1;9999 fan 0;9999 fan 1", 3);
        fault(check, "10 fan 1;9 fan 0", 9);
        fault(check, "1 fan 1;0 fan 0", 8);
        fault(check, "9999 fan 1;9998 fan 0", 11);
        // The item ahead counts, and not the first one.
        fault(check, "2 fan 1;10 fan 0;5 fan 1", 17);
        // A text that is read anew has no item ahead.
        StarterBay bay = new StarterBay();
        check.due("read", Bays.read(bay, "50 fan 1"), 1);
        check.due("read anew", Bays.read(bay, "3 fan 1"), 1);
    }

    @Sentence(of = "TIMETABLE", says = VALUES)
    static void theNumbers(Check check) {
        for (int digit = 0; digit <= 9; digit++) {
            if (digit <= 7) {
                right(check, "0 start " + digit, 1);
                right(check, "0 stop " + digit, 1);
                right(check, "0 reset " + digit, 1);
                right(check, "0 lose " + digit + " " + (7 - digit), 1);
            } else {
                fault(check, "0 start " + digit, 8);
                fault(check, "0 stop " + digit, 7);
                fault(check, "0 reset " + digit, 8);
                fault(check, "0 lose " + digit + " 0", 7);
                fault(check, "0 lose 0 " + digit, 9);
            }
            if (digit <= 1) {
                right(check, "0 fan " + digit, 1);
            } else {
                fault(check, "0 fan " + digit, 6);
            }
        }
        String[] bad = {"00", "01", "10", "17", "-1", "+1", "a", "1a", "/", ":", "0.", "\u0661"};
        for (String number : bad) {
            fault(check, "0 start " + number, 8);
            fault(check, "0 lose " + number + " 1", 7);
            fault(check, "0 lose 1 " + number, 9);
            fault(check, "0 fan " + number, 6);
        }
    }

    @Sentence(of = "TIMETABLE", says = FAULT)
    static void faultOfAWord(Check check) {
        String[] bad = {"s", "sta", "star", "starts", "Start", "START", "tart", "sto", "stops", "los", "loses", "rese", "resets", "fa",
            "fans", "start,", "request", "start0", "0"};
        for (String word : bad) {
            fault(check, "10 " + word, 3);
            fault(check, "10 " + word + " 0", 3);
            fault(check, "10 " + word + ";", 3);
            fault(check, "0 fan 1;10 " + word + " 0 0", 11);
        }
        fault(check, "10 start" + (char) 0 + " 0", 3);
        fault(check, "10 st" + (char) 8364 + "rt 0", 3);
    }

    @Sentence(of = "TIMETABLE", says = FAULT)
    static void theFirstFaultIsTold(Check check) {
        fault(check, "x fan 2", 0);
        fault(check, "0 x 2", 2);
        fault(check, "0 fan 2;x", 6);
        fault(check, "0 fan 1;1 fun 1;0 fan 2", 10);
        fault(check, "0 lose 8 8", 7);
    }

    @Sentence(of = "TIMETABLE", says = FAULT)
    static void faultOfAnEmptyPlace(Check check) {
        fault(check, " ", 0);
        fault(check, ";", 0);
        fault(check, "0  fan 1", 2);
        fault(check, "0 ;fan 1", 2);
        fault(check, "0 fan  1", 6);
        fault(check, "0 fan ;", 6);
        fault(check, "0 lose 1  1", 9);
        fault(check, "0 lose 1 ;", 9);
        fault(check, "0 fan 1; ", 8);
        fault(check, "0 fan 1;;", 8);
    }

    @Sentence(of = "TIMETABLE", says = FAULT)
    static void faultOfASeparator(Check check) {
        fault(check, "0;", 1);
        fault(check, "0;fan 1", 1);
        fault(check, "0 fan;1", 5);
        fault(check, "0 lose;1 1", 6);
        fault(check, "0 lose 1;1", 8);
        fault(check, "0 fan 1 ", 7);
        fault(check, "0 fan 1 1", 7);
        fault(check, "0 fan 1 ;", 7);
        fault(check, "0 lose 1 1 ", 10);
        fault(check, "0 lose 1 1 1", 10);
    }

    @Sentence(of = "TIMETABLE", says = FAULT)
    static void faultAtTheEnd(Check check) {
        fault(check, "", 0);
        fault(check, "9", 1);
        fault(check, "9999", 4);
        fault(check, "0 ", 2);
        fault(check, "0 fan", 5);
        fault(check, "0 fan ", 6);
        fault(check, "0 lose 7", 8);
        fault(check, "0 lose 7 ", 9);
        fault(check, "0 lose 7 7;", 11);
        fault(check, "0 fan 1;9", 9);
        fault(check, "10 fan 1;10 fan 0;10 fan 1;10 fan 0;10 fan 1;10 fan 0;10 fan 1;10 fan 0;10 fan", 78);
        String eighty = "0 fan 1;0 fan 0;0 fan 1;0 fan 0;0 fan 1;0 fan 0;0 fan 1;0 fan 0;0 fan 1;0 fan 0;";
        check.due("its length", eighty.length(), 80);
        fault(check, eighty, 80);
    }

    @Sentence(of = "TIMETABLE", says = "Whether there is such a motor plays no part.")
    static void unknownMotorsAreRead(Check check) {
        StarterBay bay = new StarterBay();
        check.due("readTimetable() without motors", Bays.read(bay, "0 start 7;0 stop 6;0 lose 5 1;0 reset 4"), 4);
        Bays.addSmall(bay, 1);
        check.due("readTimetable() with one", bay.readTimetable(), 4);
        // A motor that is added in time is there.
        StarterBay later = new StarterBay();
        Bays.read(later, "1 start 0");
        later.pass(1);
        Bays.addSmall(later, 1);
        check.due("pass(1)", later.pass(1), 1);
        check.due("count(10)", later.count(10), 0);
    }

    @Sentence(of = "TIMETABLE", says = COUNTED)
    static void countedFromTheReading(Check check) {
        int[] clocks = {0, 1, 59};
        for (int clock : clocks) {
            StarterBay bay = new StarterBay();
            Bays.passLong(bay, clock);
            Bays.read(bay, "0 fan 1;3 fan 0");
            check.due("item(0, 0)", bay.item(0, 0), 0);
            check.due("item(1, 0)", bay.item(1, 0), 3);
            check.due("count(7): nothing is carried out when it is read", bay.count(7), 0);
            bay.pass(1);
            check.due("count(7) behind the first second", bay.count(7), 1);
            bay.pass(2);
            check.due("count(7) when 3 seconds have passed", bay.count(7), 1);
            check.due("item(0, 0)", bay.item(0, 0), 0);
            bay.pass(1);
            check.due("count(7) behind the fourth second", bay.count(7), 0);
        }
    }

    @Sentence(of = "TIMETABLE", says = COUNTED)
    static void theLatestTime(Check check) {
        StarterBay bay = new StarterBay();
        bay.pass(60);
        Bays.read(bay, "9999 fan 1");
        Bays.passLong(bay, 9998);
        check.due("item(0, 0)", bay.item(0, 0), 1);
        bay.pass(1);
        check.due("item(0, 0)", bay.item(0, 0), 0);
        check.due("count(7)", bay.count(7), 0);
        bay.pass(1);
        check.due("count(7)", bay.count(7), 1);
        check.due("count(9)", bay.count(9), 0);
    }

    // {the mode of the motor 0, the item, whether it is refused}
    @Sentence(of = "TIMETABLE", says = REFUSED)
    static void refusedItems(Check check) {
        String[][] cases = {{"0", "start 1", "1"}, {"0", "stop 1", "1"}, {"0", "lose 1 0", "1"}, {"0", "lose 7 7", "1"},
            {"0", "reset 1", "1"}, {"1", "start 0", "1"}, {"2", "start 0", "1"}, {"3", "start 0", "1"}, {"4", "start 0", "1"},
            {"0", "stop 0", "1"}, {"4", "stop 0", "1"}, {"0", "reset 0", "1"}, {"3", "reset 0", "1"}, {"0", "start 0", "0"},
            {"3", "stop 0", "0"}, {"4", "reset 0", "0"}, {"3", "lose 0 1", "0"}, {"3", "fan 1", "0"},
            {"0", "fan 0", "0"}, {"0", "lose 0 0", "0"}};
        for (String[] one : cases) {
            StarterBay bay = new StarterBay();
            Bays.inMode(bay, Integer.parseInt(one[0]));
            check.due("read", Bays.read(bay, "0 " + one[1] + ";5 fan 0"), 2);
            bay.pass(1);
            check.due("count(10) by " + one[1] + " in the mode " + one[0], bay.count(10), one[2].equals("1") ? 1 : 0);
            check.due("count(9): it is left no longer", bay.count(9), 1);
            bay.pass(1);
            check.due("count(10): it counts once", bay.count(10), one[2].equals("1") ? 1 : 0);
        }
    }

    // A timetable whose only item is refused is like one whose only item is carried out to no effect.
    @Sentence(of = "TIMETABLE", says = REFUSED)
    static void refusedItemsAreNotCarriedOut(Check check) {
        String[] items = {"0 start 0", "0 start 7", "0 stop 1", "0 stop 7", "0 reset 0", "0 reset 2", "0 reset 7", "0 lose 7 1"};
        String[] apart = {"count(8)", "count(10)", "count(17)"};
        for (String item : items) {
            String[] texts = {item, "0 fan 0"};
            String[] told = new String[2];
            for (int twin = 0; twin < 2; twin++) {
                StarterBay bay = new StarterBay();
                Bays.inMode(bay, 2);
                Bays.addSmall(bay, 1);
                bay.addMotor(10, 2, 2, 104);
                bay.request(2);
                bay.pass(10);
                check.due("motor(2, 11): too hot for a reset", bay.motor(2, 11), 2);
                Bays.read(bay, texts[twin]);
                bay.pass(1);
                check.due("count(10) by " + texts[twin], bay.count(10), 1 - twin);
                told[twin] = Everything.without(Everything.of(bay), apart);
            }
            String difference = Everything.difference(told[0], told[1]);
            check.yes(item + " is not carried out, but: " + difference, difference.isEmpty());
        }
    }
}
