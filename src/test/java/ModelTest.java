import java.util.Random;

/** Runs of calls, the same each time, on StarterBay and on PlainBay: all answers must be the same. */
public final class ModelTest {
    private static final int RUNS = 6000;
    private static final int CALLS = 512;
    // A step takes no more than a motor, a text of 85 characters and its reading, an act, and what is asked then.
    private static final int LAST_STEP = CALLS - 110;
    private static final int ASKED_EACH_STEP = 6;
    private static final String[] WORDS = {"start", "stop", "lose", "reset", "fan"};
    private static final String ODD = " ;0123456789startplosefn\t-x" + (char) 233 + (char) 8364;

    private final Check check;
    private final long[] seen = new long[64];
    private Random dice;
    private StarterBay bay;
    private PlainBay plain;
    private int calls;

    private ModelTest(Check check) {
        this.check = check;
    }

    public static void main(String[] args) {
        Check.all(ModelTest.class);
    }

    static void runs(Check check) {
        ModelTest test = new ModelTest(check);
        for (int run = 0; run < RUNS; run++) {
            test.run(run);
        }
        test.checkThatMuchWasSeen();
    }

    // Each text that is one sign away from a right one, and each beginning of one.
    static void textsWithOneFault(Check check) {
        String[] texts = {"0 start 1;10 lose 2 3;999 fan 1", "5 stop 7;5 reset 0;9999 fan 0"};
        String signs = " ;0189stx";
        for (String text : texts) {
            for (int place = 0; place <= text.length(); place++) {
                read(check, text.substring(0, place));
                String ahead = text.substring(0, place);
                String behind = text.substring(Math.min(place + 1, text.length()));
                read(check, ahead + behind);
                for (int sign = 0; sign < signs.length(); sign++) {
                    read(check, ahead + signs.charAt(sign) + behind);
                    read(check, ahead + signs.charAt(sign) + text.substring(place));
                }
            }
        }
    }

    private static void read(Check check, String text) {
        PlainBay plain = new PlainBay();
        for (int place = 0; place < text.length(); place++) {
            plain.type(text.charAt(place));
        }
        check.due("readTimetable() of \"" + text + "\"", Bays.read(new StarterBay(), text), plain.readTimetable());
    }

    private void run(int number) {
        dice = new Random(number);
        bay = new StarterBay();
        plain = new PlainBay();
        calls = 0;
        check.part("run " + number);
        while (calls < LAST_STEP) {
            if (calls == 0 || dice.nextInt(12) == 0) {
                add();
            }
            if (dice.nextInt(25) == 0) {
                typeTimetable();
            }
            act();
            for (int asked = 0; asked < ASKED_EACH_STEP; asked++) {
                ask();
            }
        }
        while (calls < CALLS) {
            ask();
        }
    }

    private void due(String call, int got, int want) {
        calls++;
        check.due("call " + calls + ", " + call, got, want);
    }

    private int any(int most) {
        return dice.nextInt(30) == 0 ? dice.nextInt(5) - 2 : dice.nextInt(most);
    }

    private void add() {
        int rated = dice.nextInt(40) == 0 ? dice.nextInt(120) - 5 : 1 + dice.nextInt(dice.nextBoolean() ? 100 : 30);
        int ramp = dice.nextInt(40) == 0 ? dice.nextInt(35) : 2 + dice.nextInt(dice.nextBoolean() ? 29 : 6);
        int factor = dice.nextInt(40) == 0 ? dice.nextInt(9) : 2 + dice.nextInt(5);
        int limit = dice.nextInt(40) == 0 ? dice.nextInt(70000) : 100 + dice.nextInt(dice.nextBoolean() ? 59901 : 3000);
        due("addMotor", bay.addMotor(rated, ramp, factor, limit), plain.addMotor(rated, ramp, factor, limit));
    }

    private void typeTimetable() {
        due("clearText()", bay.clearText(), plain.clearText());
        StringBuilder text = new StringBuilder();
        int items = 1 + dice.nextInt(11);
        int time = dice.nextInt(10);
        for (int item = 0; item < items; item++) {
            int word = dice.nextInt(5);
            text.append(item > 0 ? ";" : "").append(time).append(' ').append(WORDS[word]).append(' ');
            text.append(word == 4 ? dice.nextInt(2) : dice.nextInt(dice.nextInt(4) == 0 ? 8 : 3));
            text.append(word == 2 ? " " + (dice.nextBoolean() ? 0 : dice.nextInt(8)) : "");
            time += dice.nextInt(20) == 0 ? -1 : dice.nextInt(20) == 0 ? dice.nextInt(900) : dice.nextInt(8);
        }
        if (dice.nextInt(2) == 0) {
            int place = dice.nextInt(text.length());
            switch (dice.nextInt(4)) {
                case 0: text.setCharAt(place, ODD.charAt(dice.nextInt(ODD.length()))); break;
                case 1: text.deleteCharAt(place); break;
                case 2: text.insert(place, ODD.charAt(dice.nextInt(ODD.length()))); break;
                default: text.setLength(place); break;
            }
        }
        text.setLength(Math.min(text.length(), 82));
        for (int place = 0; place < text.length(); place++) {
            due("type", bay.type(text.charAt(place)), plain.type(text.charAt(place)));
        }
        int answer = bay.readTimetable();
        due("readTimetable() of \"" + text + "\"", answer, plain.readTimetable());
        seen[answer > 0 ? 40 : 41]++;
    }

    private void act() {
        int m = any(6);
        switch (dice.nextInt(18)) {
            case 0: int need = any(11); due("setNeed", bay.setNeed(m, need), plain.setNeed(m, need)); break;
            case 1: int limit = dice.nextInt(8) * 290 + dice.nextInt(12);
                due("setLimit", bay.setLimit(limit), plain.setLimit(limit)); break;
            case 2: boolean on = dice.nextBoolean(); due("setFan", bay.setFan(on), plain.setFan(on)); break;
            case 3: case 4: case 5: due("request", bay.request(m), plain.request(m)); break;
            case 6: due("stop", bay.stop(m), plain.stop(m)); break;
            case 7: case 8: int phases = dice.nextBoolean() ? 0 : any(9);
                due("losePhases", bay.losePhases(m, phases), plain.losePhases(m, phases)); break;
            case 9: case 10: due("reset", bay.reset(m), plain.reset(m)); break;
            case 11: case 12: case 13: case 14:
                int seconds = dice.nextInt(3) == 0 ? dice.nextInt(63) : 1 + dice.nextInt(4);
                due("pass(" + seconds + ")", bay.pass(seconds), plain.pass(seconds)); break;
            case 15: due("undo", bay.undo(), plain.undo()); break;
            case 16: due("keep", bay.keep(), plain.keep()); break;
            default: due("restore", bay.restore(), plain.restore()); break;
        }
        seen[30 + plain.count(8)]++;
        seen[20 + Math.max(0, plain.event(0, 2))]++;
    }

    private void ask() {
        int m = any(8);
        int place = any(11);
        int what = dice.nextInt(20) - 1;
        switch (dice.nextInt(14)) {
            case 0: case 1: case 2: due("count(" + what + ")", bay.count(what), plain.count(what)); break;
            case 3: case 4: case 5: due("motor(" + m + ", " + what + ")", bay.motor(m, what), plain.motor(m, what)); break;
            case 6: what = what % 9; due("account(" + m + ", " + what + ")", bay.account(m, what), plain.account(m, what)); break;
            case 7: due("queue(" + place + ")", bay.queue(place), plain.queue(place)); break;
            case 8: int why = bay.whyNot(m); seen[10 + why]++; due("whyNot(" + m + ")", why, plain.whyNot(m)); break;
            case 9: what = what % 4; due("event(" + place + ", " + what + ")", bay.event(place, what), plain.event(place, what)); break;
            case 10: what = what % 5; due("item(" + place + ", " + what + ")", bay.item(place, what), plain.item(place, what)); break;
            case 11: due("coolTime(" + m + ")", bay.coolTime(m), plain.coolTime(m)); break;
            case 12: due("runTime(" + m + ")", bay.runTime(m), plain.runTime(m)); break;
            default:
                due("startHeat(" + m + ")", bay.startHeat(m), plain.startHeat(m));
                if (calls < CALLS) {
                    due("longestRamp(" + m + ")", bay.longestRamp(m), plain.longestRamp(m));
                }
        }
    }

    // A run that never comes to a state tells nothing about it.
    private void checkThatMuchWasSeen() {
        check.part("what the runs have come to");
        int[] due = {10 - 4, 10, 12, 13, 14, 21, 22, 23, 24, 25, 26, 31, 32, 34, 35, 40, 41};
        for (int place : due) {
            check.yes("seen " + place + " often enough: " + seen[place], seen[place] >= 50);
        }
    }
}
