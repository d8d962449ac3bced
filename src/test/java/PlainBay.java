import java.util.ArrayDeque;
import java.util.ArrayList;
import java.util.Deque;
import java.util.List;

/** The document once more, in another and slower way: whole copies of the state, sorted lists, regular expressions. */
final class PlainBay {
    static final class Pump {
        int rated, ramp, factor, limit, need = 5, mode, heat, lost, rampAt, waited, tripReason, lossRun;
        long[] account = new long[7];

        Pump copy() {
            Pump c = new Pump();
            c.rated = rated; c.ramp = ramp; c.factor = factor; c.limit = limit; c.need = need; c.mode = mode;
            c.heat = heat; c.lost = lost; c.rampAt = rampAt; c.waited = waited; c.tripReason = tripReason;
            c.lossRun = lossRun; c.account = account.clone();
            return c;
        }

        int current(int k) {
            return (int) Math.ceil(rated * factor * (k + 1) / (double) ramp);
        }

        int draw() {
            return mode == 2 ? current(rampAt) : mode == 3 ? (lost == 0 ? rated : (int) Math.floor(rated * 1.5)) : 0;
        }

        int startHeat(int withRamp) {
            int sum = 0;
            for (int k = 0; k < withRamp; k++) {
                int c = (int) Math.ceil(rated * factor * (k + 1) / (double) withRamp);
                sum += c * c / 10;
            }
            return sum;
        }

        boolean turns() {
            return mode == 2 || mode == 3;
        }
    }

    static final class Whole {
        List<Pump> pumps = new ArrayList<>();
        List<int[]> items = new ArrayList<>(); // seconds until due, word, first, second
        List<int[]> events = new ArrayList<>(); // all of them, the oldest first
        int clock, limit = 500, refused;
        boolean fan;

        Whole copy() {
            Whole c = new Whole();
            for (Pump p : pumps) {
                c.pumps.add(p.copy());
            }
            for (int[] item : items) {
                c.items.add(item.clone());
            }
            c.events.addAll(events);
            c.clock = clock; c.limit = limit; c.refused = refused; c.fan = fan;
            return c;
        }
    }

    private Whole w = new Whole();
    private final Deque<Whole> history = new ArrayDeque<>();
    private Whole snapshot;
    private String text = "";
    private int reason;

    private int act(int answer, Whole before) {
        boolean plain = answer == -1 || answer == -2 || answer == -3 || answer == -4 || answer <= -100;
        if (!plain) {
            history.addLast(before);
            if (history.size() > 4) {
                history.removeFirst();
            }
        }
        return answer;
    }

    private boolean unknown(int m) {
        return m < 0 || m >= w.pumps.size();
    }

    private int refuse(int why) {
        reason = why;
        return -3;
    }

    private void log(int m, int kind) {
        w.events.add(new int[] {w.clock, m, kind});
    }

    int addMotor(int rated, int ramp, int factor, int limit) {
        Whole before = w.copy();
        if (rated < 1 || rated > 100 || ramp < 2 || ramp > 30 || factor < 2 || factor > 6 || limit < 100 || limit > 60000) {
            return -2;
        }
        if (w.pumps.size() == 8) {
            return refuse(5);
        }
        Pump p = new Pump();
        p.rated = rated; p.ramp = ramp; p.factor = factor; p.limit = limit;
        w.pumps.add(p);
        return act(w.pumps.size() - 1, before);
    }

    int setNeed(int m, int need) {
        if (unknown(m)) {
            return -1;
        }
        if (need < 0 || need > 9) {
            return -2;
        }
        Whole before = w.copy();
        int old = w.pumps.get(m).need;
        w.pumps.get(m).need = need;
        return act(old == need ? -4 : old, before);
    }

    int setLimit(int limit) {
        if (limit < 10 || limit > 2000) {
            return -2;
        }
        Whole before = w.copy();
        int old = w.limit;
        w.limit = limit;
        return act(old == limit ? -4 : old, before);
    }

    int setFan(boolean on) {
        return orderAsCall(4, on ? 1 : 0, 0);
    }

    int request(int m) {
        return orderAsCall(0, m, 0);
    }

    int stop(int m) {
        return orderAsCall(1, m, 0);
    }

    int losePhases(int m, int phases) {
        return orderAsCall(2, m, phases);
    }

    int reset(int m) {
        return orderAsCall(3, m, 0);
    }

    private int orderAsCall(int word, int a, int b) {
        Whole before = w.copy();
        return act(order(word, a, b), before);
    }

    private int order(int word, int a, int b) {
        if (word == 4) {
            boolean on = a == 1;
            if (w.fan == on) {
                return -4;
            }
            w.fan = on;
            return on ? 1 : 0;
        }
        if (unknown(a)) {
            return -1;
        }
        Pump p = w.pumps.get(a);
        if (word == 0) {
            if (p.mode != 0) {
                return refuse(1);
            }
            p.mode = 1;
            p.waited = 0;
            return line().indexOf(a);
        }
        if (word == 1) {
            if (p.mode == 0 || p.mode == 4) {
                return refuse(1);
            }
            int old = p.mode;
            p.mode = 0;
            log(a, 3);
            return old;
        }
        if (word == 2) {
            if ((b & ~7) != 0) {
                return -2;
            }
            int old = p.lost;
            if (old == b) {
                return -4;
            }
            p.lost = b;
            if (b != 0 && p.mode == 2) {
                trip(a, 4);
            }
            return old;
        }
        if (p.mode != 4) {
            return refuse(1);
        }
        if (p.lost != 0) {
            return refuse(4);
        }
        if (p.heat > p.limit / 2) {
            return refuse(2);
        }
        p.mode = 0;
        log(a, 6);
        return p.heat;
    }

    private void trip(int m, int why) {
        Pump p = w.pumps.get(m);
        p.mode = 4;
        p.tripReason = why;
        p.account[3]++;
        log(m, why == 2 ? 4 : 5);
    }

    private List<Integer> line() {
        List<Integer> found = new ArrayList<>();
        for (int m = 0; m < w.pumps.size(); m++) {
            if (w.pumps.get(m).mode == 1) {
                found.add(m);
            }
        }
        // One number for all: the urgency, then what was waited, then the number, backwards.
        found.sort((x, y) -> Long.compare(rank(y), rank(x)));
        return found;
    }

    private long rank(int m) {
        Pump p = w.pumps.get(m);
        return ((p.need + p.waited / 10) * 1_000_000L + p.waited) * 10 + (9 - m);
    }

    int pass(int seconds) {
        if (seconds < 1 || seconds > 60) {
            return -2;
        }
        Whole before = w.copy();
        int starts = 0;
        for (int s = 0; s < seconds; s++) {
            starts += second();
        }
        return act(starts, before);
    }

    private int second() {
        while (!w.items.isEmpty() && w.items.get(0)[0] == 0) {
            int[] item = w.items.remove(0);
            int answer = order(item[1], item[2], item[3]);
            if (answer == -1 || answer == -2 || answer == -3) {
                w.refused++;
            }
        }
        int starts = 0;
        List<Integer> line = line();
        for (int m : line) {
            if (whyNot(m) == 0) {
                starts = 1;
                for (int ahead : line.subList(0, line.indexOf(m))) {
                    w.pumps.get(ahead).account[6]++;
                }
                w.pumps.get(m).mode = 2;
                w.pumps.get(m).rampAt = 0;
                w.pumps.get(m).account[2]++;
                log(m, 1);
                break;
            }
        }
        for (int m = 0; m < w.pumps.size(); m++) {
            heat(m);
        }
        w.clock++;
        for (Pump p : w.pumps) {
            p.waited++;
        }
        for (int[] item : w.items) {
            item[0]--;
        }
        return starts;
    }

    private void heat(int m) {
        Pump p = w.pumps.get(m);
        p.account[4] += p.turns() ? 1 : 0;
        p.account[5] += p.mode == 1 ? 1 : 0;
        int in = p.draw() * p.draw() / 10 * (p.lost != 0 ? 2 : 1);
        p.heat += in;
        p.account[0] += in;
        int off = p.heat * ((p.turns() ? 40 : 20) + (w.fan ? 30 : 0)) / 1000;
        p.heat -= off;
        p.account[1] += off;
        p.lossRun = p.mode == 3 && p.lost != 0 ? p.lossRun + 1 : 0;
        if (p.turns()) {
            if (p.heat > p.limit) {
                trip(m, 2);
            } else if (p.lossRun == 3) {
                trip(m, 4);
            } else if (p.mode == 2 && p.rampAt++ == p.ramp - 1) {
                p.mode = 3;
                log(m, 2);
            }
        }
    }

    int type(char c) {
        if (text.length() == 80) {
            return refuse(5);
        }
        text += c;
        return text.length();
    }

    int clearText() {
        int length = text.length();
        text = "";
        return length;
    }

    int readTimetable() {
        List<int[]> read = new ArrayList<>();
        int fault = read(text, read);
        if (fault >= 0) {
            return -100 - fault;
        }
        Whole before = w.copy();
        w.items = read;
        return act(read.size(), before);
    }

    /** Answers the fault or -1: each part with the sign behind it is looked at on its own. */
    private static int read(String text, List<int[]> read) {
        String rest = text;
        int lastTime = 0;
        while (true) {
            String[] row = {"(?s)(0|[1-9][0-9]{0,3})", "start|stop|lose|reset|fan", "", ""};
            String[] parts = new String[4];
            int count = 3;
            for (int n = 0; n < count; n++) {
                int at = text.length() - rest.length();
                parts[n] = rest.split("[ ;]", 2)[0];
                if (!parts[n].matches(row[n]) || n == 0 && Integer.parseInt(parts[0]) < lastTime) {
                    return at;
                }
                if (n == 1) {
                    count = parts[1].equals("lose") ? 4 : 3;
                    row[2] = parts[1].equals("fan") ? "[01]" : "[0-7]";
                    row[3] = "[0-7]";
                }
                rest = rest.substring(parts[n].length());
                if (n < count - 1) {
                    if (!rest.startsWith(" ")) {
                        return text.length() - rest.length();
                    }
                    rest = rest.substring(1);
                }
            }
            lastTime = Integer.parseInt(parts[0]);
            int word = List.of("start", "stop", "lose", "reset", "fan").indexOf(parts[1]);
            read.add(new int[] {lastTime, word, Integer.parseInt(parts[2]), count == 4 ? Integer.parseInt(parts[3]) : -4});
            if (rest.isEmpty()) {
                return -1;
            }
            if (!rest.startsWith(";")) {
                return text.length() - rest.length();
            }
            rest = rest.substring(1);
        }
    }

    int undo() {
        if (history.isEmpty()) {
            return -4;
        }
        w = history.removeLast();
        return history.size();
    }

    int keep() {
        snapshot = w.copy();
        return w.clock;
    }

    int restore() {
        if (snapshot == null) {
            return -4;
        }
        Whole before = w;
        w = snapshot.copy();
        return act(w.clock, before);
    }

    int motor(int m, int what) {
        if (unknown(m)) {
            return -1;
        }
        Pump p = w.pumps.get(m);
        int[] all = {p.rated, p.ramp, p.factor, p.limit, p.need, p.mode, p.heat, p.lost, p.mode == 2 ? p.rampAt : -4,
            p.mode == 1 ? p.waited : -4, p.draw(), p.mode == 4 ? p.tripReason : -4, p.limit > p.heat ? p.limit - p.heat : 0};
        return what < 0 || what > 12 ? -2 : all[what];
    }

    int account(int m, int what) {
        return unknown(m) ? -1 : what < 0 || what > 6 ? -2 : (int) w.pumps.get(m).account[what];
    }

    int queue(int place) {
        return place < 0 ? -2 : place >= line().size() ? -4 : line().get(place);
    }

    int whyNot(int m) {
        if (unknown(m)) {
            return -1;
        }
        Pump p = w.pumps.get(m);
        if (p.mode != 1) {
            return -4;
        }
        int sum = p.rated * p.factor;
        for (Pump other : w.pumps) {
            sum += other.mode == 2 ? other.rated * other.factor : other.draw();
        }
        return p.lost != 0 ? 4 : p.limit - p.heat < p.startHeat(p.ramp) ? 2 : sum > w.limit ? 3 : 0;
    }

    int event(int event, int what) {
        if (event < 0 || what < 0 || what > 2) {
            return -2;
        }
        return event > 9 || event >= w.events.size() ? -4 : w.events.get(w.events.size() - 1 - event)[what];
    }

    int item(int item, int what) {
        if (item < 0 || what < 0 || what > 3) {
            return -2;
        }
        return item >= w.items.size() ? -4 : w.items.get(item)[what];
    }

    int startHeat(int m) {
        return unknown(m) ? -1 : w.pumps.get(m).startHeat(w.pumps.get(m).ramp);
    }

    int coolTime(int m) {
        if (unknown(m)) {
            return -1;
        }
        Pump p = w.pumps.get(m).copy();
        int s = 0;
        while (p.limit - p.heat < p.startHeat(p.ramp)) {
            if (++s > 999) {
                return -4;
            }
            p.heat -= p.heat * (w.fan ? 50 : 20) / 1000;
        }
        return s;
    }

    int runTime(int m) {
        if (unknown(m)) {
            return -1;
        }
        Pump p = w.pumps.get(m).copy();
        for (int s = 1; s < 1000; s++) {
            p.heat += p.rated * p.rated / 10;
            p.heat -= p.heat * (w.fan ? 70 : 40) / 1000;
            if (p.heat > p.limit) {
                return s;
            }
        }
        return -4;
    }

    int longestRamp(int m) {
        if (unknown(m)) {
            return -1;
        }
        int longest = -4;
        for (int ramp = 2; ramp <= 30; ramp++) {
            if (w.pumps.get(m).startHeat(ramp) <= w.pumps.get(m).limit - w.pumps.get(m).heat) {
                longest = ramp;
            }
        }
        return longest;
    }

    int count(int what) {
        if (what < 0 || what > 17) {
            return -2;
        }
        int[] modes = new int[5];
        long in = 0;
        long off = 0;
        int held = 0;
        int draws = 0;
        for (Pump p : w.pumps) {
            modes[p.mode]++;
            in += p.account[0];
            off += p.account[1];
            held += p.heat;
            draws += p.draw();
        }
        long[] all = {w.pumps.size(), modes[1], modes[2], modes[3], modes[4], w.clock, w.limit, w.fan ? 1 : 0, reason,
            w.items.size(), w.refused, in, off, held, draws, w.events.size(), history.size(), text.length()};
        return (int) all[what];
    }
}
