/** All that a bay tells, a line for each answer. It takes 304 calls at the most, of the 512 of an object. */
final class Everything {
    private final StarterBay bay;
    private final StringBuilder lines = new StringBuilder();

    private Everything(StarterBay bay) {
        this.bay = bay;
    }

    static String of(StarterBay bay) {
        Everything told = new Everything(bay);
        told.counts();
        for (int motor = 0; motor < bay.count(0); motor++) {
            told.motor(motor);
        }
        told.rows();
        return told.lines.toString();
    }

    /** Leaves out the lines of some calls, which are named as "count(8)". */
    static String without(String lines, String... calls) {
        StringBuilder left = new StringBuilder();
        for (String line : lines.split("\n")) {
            boolean stays = true;
            for (String call : calls) {
                stays &= !line.startsWith(call + " ");
            }
            left.append(stays ? line + "\n" : "");
        }
        return left.toString();
    }

    /** Names the first line in which the two differ, or is empty if they are the same. */
    static String difference(String one, String other) {
        String[] lines = one.split("\n");
        String[] others = other.split("\n");
        for (int line = 0; line < Math.max(lines.length, others.length); line++) {
            String here = line < lines.length ? lines[line] : "nothing";
            String there = line < others.length ? others[line] : "nothing";
            if (!here.equals(there)) {
                return here + " is " + there;
            }
        }
        return "";
    }

    private void add(String call, int answer) {
        lines.append(call).append(" = ").append(answer).append('\n');
    }

    private void counts() {
        for (int what = 0; what <= 17; what++) {
            add("count(" + what + ")", bay.count(what));
        }
    }

    private void motor(int motor) {
        for (int what = 0; what <= 12; what++) {
            add("motor(" + motor + ", " + what + ")", bay.motor(motor, what));
        }
        for (int what = 0; what <= 6; what++) {
            add("account(" + motor + ", " + what + ")", bay.account(motor, what));
        }
        add("whyNot(" + motor + ")", bay.whyNot(motor));
        add("startHeat(" + motor + ")", bay.startHeat(motor));
        add("coolTime(" + motor + ")", bay.coolTime(motor));
        add("runTime(" + motor + ")", bay.runTime(motor));
        add("longestRamp(" + motor + ")", bay.longestRamp(motor));
    }

    // Each row is told up to the first place behind it.
    private void rows() {
        for (int place = 0; place <= bay.count(1); place++) {
            add("queue(" + place + ")", bay.queue(place));
        }
        for (int event = 0; event <= Math.min(10, bay.count(15)); event++) {
            for (int what = 0; what <= 2; what++) {
                add("event(" + event + ", " + what + ")", bay.event(event, what));
            }
        }
        for (int item = 0; item <= bay.count(9); item++) {
            for (int what = 0; what <= 3; what++) {
                add("item(" + item + ", " + what + ")", bay.item(item, what));
            }
        }
    }
}
