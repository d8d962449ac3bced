/** Promises 11 to 13. */
public final class TimetableTest {
    private static final String RETURNS_ITEMS = "Returns the number of its items; -100 minus the fault of the text if it has "
            + "one (which is an error).";

    public static void main(String[] args) {
        Check.all(TimetableTest.class);
    }

    @Sentence(of = "Promise 11", says = "Types a character behind the text.")
    static void typesBehindTheText(Check check) {
        StarterBay bay = new StarterBay();
        String text = "0 fan 1;0 fan 0";
        int[] due = {-101, -102, -102, -102, -105, -106, 1, -108, -109, -110, -110, -110, -113, -114, 2};
        for (int place = 0; place < text.length(); place++) {
            check.due("type", bay.type(text.charAt(place)), place + 1);
            check.due("readTimetable() behind the character " + place, bay.readTimetable(), due[place]);
        }
        check.due("type('x')", bay.type('x'), 16);
        check.due("readTimetable()", bay.readTimetable(), -114);
    }

    @Sentence(of = "Promise 11", says = "`character`: any character")
    static void anyCharacter(Check check) {
        char[] odd = {(char) 0, ' ', ';', '\n', '\r', (char) 127, (char) 128, (char) 255, (char) 256, (char) 8364, (char) 55357,
            (char) 56832, (char) 65535};
        for (char one : odd) {
            StarterBay bay = new StarterBay();
            check.due("type of " + (int) one, bay.type(one), 1);
            check.due("readTimetable() of it alone", bay.readTimetable(), -100);
            bay.clearText();
            Bays.typeAll(bay, "0 fan 1");
            check.due("type of " + (int) one, bay.type(one), 8);
            check.due("readTimetable() of it at the end", bay.readTimetable(), one == ' ' ? -107 : one == ';' ? -108 : -106);
            check.due("count(8)", bay.count(8), 0);
        }
    }

    @Sentence(of = "Promise 11",
            says = "Returns the length of the text then; REFUSED for the reason 5 if it has 80 characters.")
    static void refusedAtEighty(Check check) {
        StarterBay bay = new StarterBay();
        for (int length = 1; length <= 80; length++) {
            check.due("type('0')", bay.type('0'), length);
        }
        check.due("count(8)", bay.count(8), 0);
        check.due("type('0') with 80", bay.type('0'), Bays.R);
        check.due("type('0') with 80, again", bay.type('0'), Bays.R);
        check.due("count(8)", bay.count(8), 5);
        check.due("count(17)", bay.count(17), 80);
        check.due("count(16): it is no act", bay.count(16), 0);
        check.due("clearText()", bay.clearText(), 80);
        check.due("type('0'): there is room again", bay.type('0'), 1);
    }

    @Sentence(of = "Promise 12", says = {"Empties the text.", "Returns the length that it had."})
    static void emptiesTheText(Check check) {
        int[] lengths = {0, 1, 7, 79, 80};
        for (int length : lengths) {
            StarterBay bay = new StarterBay();
            for (int place = 0; place < length; place++) {
                bay.type('9');
            }
            check.due("clearText() of " + length, bay.clearText(), length);
            check.due("count(17)", bay.count(17), 0);
            check.due("clearText() again", bay.clearText(), 0);
            check.due("readTimetable(): nothing of it is left", bay.readTimetable(), -100);
            check.due("type('9')", bay.type('9'), 1);
            check.due("readTimetable()", bay.readTimetable(), -101);
            check.due("count(16): it is no act", bay.count(16), 0);
        }
        StarterBay read = new StarterBay();
        Bays.read(read, "4 fan 1;5 fan 0");
        read.clearText();
        check.due("count(9): what was read is left", read.count(9), 2);
    }

    @Sentence(of = "Promise 13", says = {
        "Reads the timetable of the text, which stays; it takes the place of all items that are left.", "This is an act."})
    static void takesThePlace(Check check) {
        StarterBay bay = new StarterBay();
        Bays.read(bay, "5 fan 1;7 fan 0;9 stop 1");
        bay.pass(6);
        check.due("count(9)", bay.count(9), 2);
        check.due("item(0, 0)", bay.item(0, 0), 1);
        check.due("readTimetable() of the same text", bay.readTimetable(), 3);
        check.due("count(17): the text stays", bay.count(17), 24);
        check.due("count(9): all of the other ones are gone", bay.count(9), 3);
        check.due("item(0, 0): it is counted from now", bay.item(0, 0), 5);
        check.due("item(2, 1)", bay.item(2, 1), 1);
        check.due("undo()", bay.undo(), 2);
        check.due("count(9)", bay.count(9), 2);
        check.due("item(0, 0)", bay.item(0, 0), 1);
        check.due("Bays.read of a shorter one", Bays.read(bay, "3 fan 0"), 1);
        check.due("count(9)", bay.count(9), 1);
        check.due("item(0, 2)", bay.item(0, 2), 0);
        check.due("item(1, 0)", bay.item(1, 0), Bays.N);
        Twins.undone(check, "readTimetable()", twin -> {
            Bays.read(twin, "2 fan 1;3 stop 0");
            Bays.typeAll(twin, ";4 start 1");
        }, StarterBay::readTimetable, 3);
    }

    @Sentence(of = "Promise 13", says = RETURNS_ITEMS)
    static void returnsTheNumberOfItsItems(Check check) {
        StringBuilder text = new StringBuilder("0 fan 0");
        for (int items = 1; items <= 10; items++) {
            check.due("readTimetable() of " + items, Bays.read(new StarterBay(), text.toString()), items);
            text.append(";0 fan ").append(items % 2);
        }
        StarterBay bay = new StarterBay();
        check.due("readTimetable() of 10, filled up", Bays.read(bay, text.substring(0, 79) + "000"), -178);
        check.due("count(17)", bay.count(17), 80);
    }

    @Sentence(of = "Promise 13", says = RETURNS_ITEMS)
    static void aFaultChangesNothing(Check check) {
        String[] texts = {"", ";", "7 start 5;8 start 6;9 start", "0 fan 1;0 fan 2", "0 fan 1;", "1 fan 1;0 fan 0"};
        int[] places = {0, 0, 27, 14, 8, 8};
        for (int place = 0; place < texts.length; place++) {
            String text = texts[place];
            Twins.stays(check, "readTimetable() of \"" + text + "\"", bay -> {
                Bays.inMode(bay, 1);
                Bays.read(bay, "3 fan 1;4 stop 2");
                bay.clearText();
                Bays.typeAll(bay, text);
            }, StarterBay::readTimetable, -100 - places[place]);
        }
    }
}
