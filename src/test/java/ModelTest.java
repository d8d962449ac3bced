import java.util.Random;

/** Runs of calls, the same each time, on StarterBay and on PlainBay: all answers must be the same. */
public final class ModelTest {
    private static final int RUNS = 600;
    private static final int CALLS = 512;
    private static final String[] WORDS = {"start", "stop", "lose", "reset", "fan"};
    private static final String ODD = " ;0123456789startplosefn\t-x" + (char) 233 + (char) 8364;

    private final Check check = new Check();
    private final long[] seen = new long[64];
    private Random dice;
    private StarterBay bay;
    private PlainBay plain;

    public static void main(String[] args) {
        ModelTest test = new ModelTest();
        for (int run = 0; run < RUNS; run++) {
            test.run(run);
        }
        test.checkThatMuchWasSeen();
        test.check.end();
    }

    private void run(int number) {
        dice = new Random(number);
        bay = new StarterBay();
        plain = new PlainBay();
        check.part("run " + number);
        for (int call = 0; call < CALLS; call++) {
            if (call < 3 || dice.nextInt(60) == 0) {
                add();
            }
            if (dice.nextInt(25) == 0) {
                typeTimetable();
            }
            one();
            compare(dice.nextInt(40) == 0);
        }
    }

    private int any(int most) {
        return dice.nextInt(30) == 0 ? dice.nextInt(5) - 2 : dice.nextInt(most);
    }

    private void add() {
        int rated = dice.nextInt(40) == 0 ? dice.nextInt(120) - 5 : 1 + dice.nextInt(dice.nextBoolean() ? 100 : 30);
        int ramp = dice.nextInt(40) == 0 ? dice.nextInt(35) : 2 + dice.nextInt(dice.nextBoolean() ? 29 : 6);
        int factor = dice.nextInt(40) == 0 ? dice.nextInt(9) : 2 + dice.nextInt(5);
        int limit = dice.nextInt(40) == 0 ? dice.nextInt(70000) : 100 + dice.nextInt(dice.nextBoolean() ? 59901 : 3000);
        check.due("addMotor", bay.addMotor(rated, ramp, factor, limit), plain.addMotor(rated, ramp, factor, limit));
    }

    private void typeTimetable() {
        check.due("clearText()", bay.clearText(), plain.clearText());
        StringBuilder text = new StringBuilder();
        int items = 1 + dice.nextInt(11);
        int time = dice.nextInt(10);
        for (int item = 0; item < items && text.length() < 85; item++) {
            int word = dice.nextInt(5);
            text.append(item > 0 ? ";" : "").append(time).append(' ').append(WORDS[word]).append(' ');
            text.append(word == 4 ? dice.nextInt(2) : dice.nextInt(dice.nextInt(4) == 0 ? 8 : 3));
            text.append(word == 2 ? " " + (dice.nextBoolean() ? 0 : dice.nextInt(8)) : "");
            time += dice.nextInt(20) == 0 ? -1 : dice.nextInt(20) == 0 ? dice.nextInt(900) : dice.nextInt(8);
        }
        if (dice.nextInt(2) == 0) {
            int place = dice.nextInt(text.length());
            switch (dice.nextInt(4)) {
                case 0: text.setCharAt(place, ODD.charAt(dice.nextInt(ODD.length()))); break;
                case 1: text.deleteCharAt(place); break;
                case 2: text.insert(place, ODD.charAt(dice.nextInt(ODD.length()))); break;
                default: text.setLength(place); break;
            }
        }
        for (int place = 0; place < text.length(); place++) {
            check.due("type", bay.type(text.charAt(place)), plain.type(text.charAt(place)));
        }
        int answer = bay.readTimetable();
        check.due("readTimetable() of \"" + text + "\"", answer, plain.readTimetable());
        seen[answer > 0 ? 40 : 41]++;
    }

    private void one() {
        int m = any(6);
        switch (dice.nextInt(18)) {
            case 0: int need = any(11); check.due("setNeed", bay.setNeed(m, need), plain.setNeed(m, need)); break;
            case 1: int limit = dice.nextInt(8) * 290 + dice.nextInt(12);
                check.due("setLimit", bay.setLimit(limit), plain.setLimit(limit)); break;
            case 2: boolean on = dice.nextBoolean(); check.due("setFan", bay.setFan(on), plain.setFan(on)); break;
            case 3: case 4: case 5: check.due("request", bay.request(m), plain.request(m)); break;
            case 6: check.due("stop", bay.stop(m), plain.stop(m)); break;
            case 7: case 8: int phases = dice.nextBoolean() ? 0 : any(9);
                check.due("losePhases", bay.losePhases(m, phases), plain.losePhases(m, phases)); break;
            case 9: case 10: check.due("reset", bay.reset(m), plain.reset(m)); break;
            case 11: case 12: case 13: case 14:
                int seconds = dice.nextInt(3) == 0 ? dice.nextInt(63) : 1 + dice.nextInt(4);
                check.due("pass(" + seconds + ")", bay.pass(seconds), plain.pass(seconds)); break;
            case 15: check.due("undo", bay.undo(), plain.undo()); break;
            case 16: check.due("keep", bay.keep(), plain.keep()); break;
            default:
                if (dice.nextInt(4) == 0) {
                    check.due("restore", bay.restore(), plain.restore());
                }
        }
    }

    private void compare(boolean all) {
        for (int what = -1; what <= 18; what++) {
            check.due("count(" + what + ")", bay.count(what), plain.count(what));
        }
        for (int m = -1; m <= (all ? 8 : 3); m++) {
            for (int what = -1; what <= 13; what++) {
                check.due("motor(" + m + ", " + what + ")", bay.motor(m, what), plain.motor(m, what));
            }
            for (int what = -1; what <= 7; what++) {
                check.due("account(" + m + ", " + what + ")", bay.account(m, what), plain.account(m, what));
            }
            check.due("queue(" + m + ")", bay.queue(m), plain.queue(m));
            int why = bay.whyNot(m);
            check.due("whyNot(" + m + ")", why, plain.whyNot(m));
            seen[10 + why]++;
        }
        for (int place = -1; all && place <= 10; place++) {
            for (int what = -1; what <= 4; what++) {
                check.due("event(" + place + ", " + what + ")", bay.event(place, what), plain.event(place, what));
                check.due("item(" + place + ", " + what + ")", bay.item(place, what), plain.item(place, what));
            }
            check.due("startHeat(" + place + ")", bay.startHeat(place), plain.startHeat(place));
            check.due("coolTime(" + place + ")", bay.coolTime(place), plain.coolTime(place));
            check.due("runTime(" + place + ")", bay.runTime(place), plain.runTime(place));
            check.due("longestRamp(" + place + ")", bay.longestRamp(place), plain.longestRamp(place));
        }
        seen[20 + Math.max(0, bay.event(0, 2))]++;
        seen[30 + bay.count(8)]++;
    }

    // A run that never comes to a state tells nothing about it.
    private void checkThatMuchWasSeen() {
        check.part("what the runs have come to");
        int[] due = {10 - 4, 10, 12, 13, 14, 21, 22, 23, 24, 25, 26, 31, 32, 34, 35, 40, 41};
        for (int place : due) {
            check.yes("seen " + place + " often enough: " + seen[place], seen[place] >= 50);
        }
    }
}
