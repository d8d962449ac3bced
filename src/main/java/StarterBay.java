/** A bay of soft starters for pump motors, second by second; ../shared/DOC.md says what it promises. */
public final class StarterBay {
    public static final int UNKNOWN = -1;
    public static final int BAD_VALUE = -2;
    public static final int REFUSED = -3;
    public static final int NONE = -4;

    private static final int MOST_MOTORS = 8;
    private static final int MOST_STATES = 4;
    private static final int MOST_EVENTS = 10;
    private static final int MOST_CHARACTERS = 80;
    // The shortest item ("0 fan 0" and its ";") takes 8 characters.
    private static final int MOST_ITEMS = 10;
    private static final int MOST_SECONDS = 60;
    private static final int FORECAST_SECONDS = 999;
    private static final int SHORTEST_RAMP = 2;
    private static final int LONGEST_RAMP = 30;
    private static final int LOSS_SECONDS = 3;
    private static final int FIRST_FAULT = -100;

    private static final int STOPPED = 0;
    private static final int WAITING = 1;
    private static final int STARTING = 2;
    private static final int RUNNING = 3;
    private static final int TRIPPED = 4;

    private static final int WRONG_MODE = 1;
    private static final int HEAT = 2;
    private static final int BAY_CURRENT = 3;
    private static final int PHASES = 4;
    private static final int NO_ROOM = 5;

    private static final int NO_EVENT = 0;
    private static final int STARTS = 1;
    private static final int RUNS = 2;
    private static final int IS_STOPPED = 3;
    private static final int TRIPS_FOR_HEAT = 4;
    private static final int TRIPS_FOR_PHASES = 5;
    private static final int IS_RESET = 6;

    private static final int ACCOUNTS = 7;
    private static final int HEAT_TAKEN_IN = 0;
    private static final int HEAT_GIVEN_OFF = 1;
    private static final int TIMES_STARTED = 2;
    private static final int TIMES_TRIPPED = 3;
    private static final int SECONDS_TURNED = 4;
    private static final int SECONDS_WAITED = 5;
    private static final int TIMES_PASSED_OVER = 6;

    private static final int ORDER_START = 0;
    private static final int ORDER_STOP = 1;
    private static final int ORDER_LOSE = 2;
    private static final int ORDER_RESET = 3;
    private static final int ORDER_FAN = 4;
    private static final int ORDERS = 5;

    // What a check answers if nothing stands against the call; all errors and NONE are negative.
    private static final int POSSIBLE = 0;

    private final State now;
    private final History history;
    private final State snapshot;
    private boolean hasSnapshot;
    private final TimetableText text;
    private final Timetable draft;
    private final int[] line;
    private int reason;

    public StarterBay() {
        now = new State();
        history = new History();
        snapshot = new State();
        text = new TimetableText();
        draft = new Timetable();
        line = new int[MOST_MOTORS];
    }

    // ---- motors

    public int addMotor(int rated, int ramp, int factor, int limit) {
        if (isOutside(rated, 1, 100) || isOutside(ramp, SHORTEST_RAMP, LONGEST_RAMP)
                || isOutside(factor, 2, 6) || isOutside(limit, 100, 60000)) {
            return BAD_VALUE;
        }
        if (now.motorCount >= MOST_MOTORS) {
            return refuse(NO_ROOM);
        }
        history.record(now);
        int number = now.motorCount;
        now.motors[number].begin(rated, ramp, factor, limit);
        now.motorCount = number + 1;
        return number;
    }

    public int setNeed(int motor, int need) {
        Motor found = now.find(motor);
        if (found == null) {
            return UNKNOWN;
        }
        if (isOutside(need, 0, 9)) {
            return BAD_VALUE;
        }
        int previous = found.need;
        if (need == previous) {
            return NONE;
        }
        history.record(now);
        found.need = need;
        return previous;
    }

    public int setLimit(int limit) {
        if (isOutside(limit, 10, 2000)) {
            return BAD_VALUE;
        }
        int previous = now.limit;
        if (limit == previous) {
            return NONE;
        }
        history.record(now);
        now.limit = limit;
        return previous;
    }

    public int setFan(boolean on) {
        return callOrder(ORDER_FAN, on ? 1 : 0, NONE);
    }

    // ---- orders

    public int request(int motor) {
        int answer = callOrder(ORDER_START, motor, NONE);
        return answer < 0 ? answer : placeInLine(motor);
    }

    public int stop(int motor) {
        return callOrder(ORDER_STOP, motor, NONE);
    }

    public int losePhases(int motor, int phases) {
        return callOrder(ORDER_LOSE, motor, phases);
    }

    public int reset(int motor) {
        return callOrder(ORDER_RESET, motor, NONE);
    }

    public int pass(int seconds) {
        if (isOutside(seconds, 1, MOST_SECONDS)) {
            return BAD_VALUE;
        }
        history.record(now);
        int started = 0;
        for (int second = 0; second < seconds; second++) {
            carryOutDueItems();
            if (startFirstThatCan()) {
                started++;
            }
            heatMotors();
            now.clock++;
        }
        return started;
    }

    // ---- timetable

    public int type(char character) {
        if (text.length >= MOST_CHARACTERS) {
            return refuse(NO_ROOM);
        }
        text.characters[text.length] = character;
        text.length++;
        return text.length;
    }

    public int clearText() {
        int length = text.length;
        text.length = 0;
        return length;
    }

    public int readTimetable() {
        if (!text.readInto(draft, now.clock)) {
            return FIRST_FAULT - text.at;
        }
        history.record(now);
        now.timetable.copyFrom(draft);
        return draft.left();
    }

    // ---- history

    public int undo() {
        return history.takeBack(now) ? history.size : NONE;
    }

    public int keep() {
        snapshot.copyFrom(now);
        hasSnapshot = true;
        return now.clock;
    }

    public int restore() {
        if (!hasSnapshot) {
            return NONE;
        }
        history.record(now);
        now.copyFrom(snapshot);
        return now.clock;
    }

    // ---- what is told

    public int motor(int motor, int what) {
        Motor told = now.find(motor);
        if (told == null) {
            return UNKNOWN;
        }
        switch (what) {
            case 0: return told.rated;
            case 1: return told.ramp;
            case 2: return told.factor;
            case 3: return told.limit;
            case 4: return told.need;
            case 5: return told.mode;
            case 6: return told.heat;
            case 7: return told.lost;
            case 8: return told.mode == STARTING ? told.rampSeconds : NONE;
            case 9: return told.mode == WAITING ? now.clock - told.requestedAt : NONE;
            case 10: return told.draw();
            case 11: return told.mode == TRIPPED ? told.tripReason : NONE;
            case 12: return Math.max(0, told.credit());
            default: return BAD_VALUE;
        }
    }

    public int account(int motor, int what) {
        Motor told = now.find(motor);
        if (told == null) {
            return UNKNOWN;
        }
        return isOutside(what, 0, ACCOUNTS - 1) ? BAD_VALUE : told.accounts[what];
    }

    public int queue(int place) {
        if (place < 0) {
            return BAD_VALUE;
        }
        int length = fillLine();
        return place < length ? line[place] : NONE;
    }

    public int whyNot(int motor) {
        Motor told = now.find(motor);
        if (told == null) {
            return UNKNOWN;
        }
        return told.mode == WAITING ? now.reasonAgainst(told) : NONE;
    }

    public int event(int event, int what) {
        if (event < 0 || isOutside(what, 0, 2)) {
            return BAD_VALUE;
        }
        return now.events.tell(event, what);
    }

    public int item(int item, int what) {
        if (item < 0 || isOutside(what, 0, 3)) {
            return BAD_VALUE;
        }
        return now.timetable.tell(item, what, now.clock);
    }

    // ---- forecasts; nothing changes

    public int startHeat(int motor) {
        Motor told = now.find(motor);
        return told == null ? UNKNOWN : told.heatToStart;
    }

    public int coolTime(int motor) {
        Motor told = now.find(motor);
        if (told == null) {
            return UNKNOWN;
        }
        int heat = told.heat;
        for (int seconds = 0; seconds <= FORECAST_SECONDS; seconds++) {
            if (told.limit - heat >= told.heatToStart) {
                return seconds;
            }
            heat -= givenOff(heat, false, now.fan);
        }
        return NONE;
    }

    public int runTime(int motor) {
        Motor told = now.find(motor);
        if (told == null) {
            return UNKNOWN;
        }
        int heat = told.heat;
        for (int second = 1; second <= FORECAST_SECONDS; second++) {
            heat += heatOf(told.rated);
            heat -= givenOff(heat, true, now.fan);
            if (heat > told.limit) {
                return second;
            }
        }
        return NONE;
    }

    public int longestRamp(int motor) {
        Motor told = now.find(motor);
        if (told == null) {
            return UNKNOWN;
        }
        for (int ramp = LONGEST_RAMP; ramp >= SHORTEST_RAMP; ramp--) {
            if (heatOfStart(told.peak(), ramp) <= told.credit()) {
                return ramp;
            }
        }
        return NONE;
    }

    public int count(int what) {
        switch (what) {
            case 0: return now.motorCount;
            case 1:
            case 2:
            case 3:
            case 4: return now.motorsInMode(what);
            case 5: return now.clock;
            case 6: return now.limit;
            case 7: return now.fan ? 1 : 0;
            case 8: return reason;
            case 9: return now.timetable.left();
            case 10: return now.refusedItems;
            case 11: return now.sumOfAccount(HEAT_TAKEN_IN);
            case 12: return now.sumOfAccount(HEAT_GIVEN_OFF);
            case 13: return now.sumOfHeat();
            case 14: return now.sumOfDraws();
            case 15: return now.events.total;
            case 16: return history.size;
            case 17: return text.length;
            default: return BAD_VALUE;
        }
    }

    // ---- orders, which calls and items of the timetable share

    private int callOrder(int order, int first, int second) {
        int error = checkOrder(order, first, second);
        if (error != POSSIBLE) {
            return error;
        }
        history.record(now);
        return carryOut(order, first, second);
    }

    /** Answers POSSIBLE, or what the call has to return instead of its answer. */
    private int checkOrder(int order, int first, int second) {
        if (order == ORDER_FAN) {
            return (first == 1) == now.fan ? NONE : POSSIBLE;
        }
        Motor motor = now.find(first);
        if (motor == null) {
            return UNKNOWN;
        }
        switch (order) {
            case ORDER_START: return motor.mode == STOPPED ? POSSIBLE : refuse(WRONG_MODE);
            case ORDER_STOP:
                return motor.mode == STOPPED || motor.mode == TRIPPED ? refuse(WRONG_MODE) : POSSIBLE;
            case ORDER_LOSE: return checkLoss(motor, second);
            default: return checkReset(motor);
        }
    }

    private int checkLoss(Motor motor, int phases) {
        if (isOutside(phases, 0, 7)) {
            return BAD_VALUE;
        }
        return phases == motor.lost ? NONE : POSSIBLE;
    }

    private int checkReset(Motor motor) {
        if (motor.mode != TRIPPED) {
            return refuse(WRONG_MODE);
        }
        if (motor.lost != 0) {
            return refuse(PHASES);
        }
        return motor.heat > motor.limit / 2 ? refuse(HEAT) : POSSIBLE;
    }

    /** Carries out what checkOrder has found possible, and answers what its call returns. */
    private int carryOut(int order, int first, int second) {
        if (order == ORDER_FAN) {
            now.fan = first == 1;
            return first;
        }
        Motor motor = now.find(first);
        if (motor == null) {
            return UNKNOWN;
        }
        switch (order) {
            case ORDER_START:
                motor.requestedAt = now.clock;
                return motor.change(WAITING);
            case ORDER_STOP:
                now.note(motor, IS_STOPPED);
                return motor.change(STOPPED);
            case ORDER_LOSE: return carryOutLoss(motor, second);
            default:
                now.note(motor, IS_RESET);
                motor.change(STOPPED);
                return motor.heat;
        }
    }

    private int carryOutLoss(Motor motor, int phases) {
        int previous = motor.lost;
        motor.lost = phases;
        if (motor.mode == STARTING && phases != 0) {
            now.note(motor, motor.trip(PHASES));
        }
        return previous;
    }

    private int refuse(int newReason) {
        reason = newReason;
        return REFUSED;
    }

    // ---- the points of a second

    private void carryOutDueItems() {
        Timetable timetable = now.timetable;
        for (int place = timetable.next; place < timetable.size; place++) {
            if (timetable.due[place] > now.clock) {
                return;
            }
            timetable.next = place + 1;
            carryOutItem(timetable.order[place], timetable.first[place], timetable.second[place]);
        }
    }

    private void carryOutItem(int order, int first, int second) {
        int error = checkOrder(order, first, second);
        if (error == POSSIBLE) {
            carryOut(order, first, second);
        } else if (error != NONE) {
            now.refusedItems++;
        }
    }

    private boolean startFirstThatCan() {
        int length = fillLine();
        for (int place = 0; place < length; place++) {
            Motor motor = now.motors[line[place]];
            if (now.reasonAgainst(motor) == POSSIBLE) {
                motor.mode = STARTING;
                motor.rampSeconds = 0;
                motor.accounts[TIMES_STARTED]++;
                now.note(motor, STARTS);
                passOver(place);
                return true;
            }
        }
        return false;
    }

    private void passOver(int ahead) {
        for (int place = 0; place < ahead; place++) {
            now.motors[line[place]].accounts[TIMES_PASSED_OVER]++;
        }
    }

    private void heatMotors() {
        for (int number = 0; number < now.motorCount; number++) {
            Motor motor = now.motors[number];
            motor.countSecond();
            motor.exchangeHeat(now.fan);
            now.note(motor, motor.endSecond());
        }
    }

    // ---- the queue

    /** Fills the line with the numbers of the motors that are waiting, and answers how many they are. */
    private int fillLine() {
        int length = 0;
        for (int number = 0; number < now.motorCount; number++) {
            if (now.motors[number].mode == WAITING) {
                int place = length;
                for (; place > 0 && now.isAhead(number, line[place - 1]); place--) {
                    line[place] = line[place - 1];
                }
                line[place] = number;
                length++;
            }
        }
        return length;
    }

    private int placeInLine(int number) {
        int length = fillLine();
        for (int place = 0; place < length; place++) {
            if (line[place] == number) {
                return place;
            }
        }
        return NONE;
    }

    // ---- numbers

    private static boolean isOutside(int number, int least, int most) {
        return number < least || number > most;
    }

    private static int heatOf(int current) {
        return current * current / 10;
    }

    private static int givenOff(int heat, boolean turns, boolean fan) {
        int rate = (turns ? 40 : 20) + (fan ? 30 : 0);
        return heat * rate / 1000;
    }

    private static int rampCurrent(int peak, int ramp, int second) {
        return ramp < 1 ? 0 : (peak * (second + 1) + ramp - 1) / ramp;
    }

    private static int heatOfStart(int peak, int ramp) {
        int sum = 0;
        for (int second = 0; second < ramp; second++) {
            sum += heatOf(rampCurrent(peak, ramp, second));
        }
        return sum;
    }

    /** A motor; those of one state stand in a row that is filled once and used again. */
    private static final class Motor {
        final int number;
        final int[] accounts;
        int rated;
        int ramp;
        int factor;
        int limit;
        int heatToStart;
        int need;
        int mode;
        int heat;
        int lost;
        int rampSeconds;
        int requestedAt;
        int tripReason;
        int lossSeconds;

        Motor(int number) {
            this.number = number;
            accounts = new int[ACCOUNTS];
        }

        // An undone addMotor leaves its numbers in the row, so that all are set anew here.
        void begin(int newRated, int newRamp, int newFactor, int newLimit) {
            rated = newRated;
            ramp = newRamp;
            factor = newFactor;
            limit = newLimit;
            heatToStart = heatOfStart(newRated * newFactor, newRamp);
            need = 5;
            mode = STOPPED;
            heat = 0;
            lost = 0;
            rampSeconds = 0;
            requestedAt = 0;
            tripReason = 0;
            lossSeconds = 0;
            for (int what = 0; what < ACCOUNTS; what++) {
                accounts[what] = 0;
            }
        }

        void copyFrom(Motor other) {
            rated = other.rated;
            ramp = other.ramp;
            factor = other.factor;
            limit = other.limit;
            heatToStart = other.heatToStart;
            need = other.need;
            mode = other.mode;
            heat = other.heat;
            lost = other.lost;
            rampSeconds = other.rampSeconds;
            requestedAt = other.requestedAt;
            tripReason = other.tripReason;
            lossSeconds = other.lossSeconds;
            System.arraycopy(other.accounts, 0, accounts, 0, ACCOUNTS);
        }

        boolean turns() {
            return mode == STARTING || mode == RUNNING;
        }

        int peak() {
            return rated * factor;
        }

        int credit() {
            return limit - heat;
        }

        int draw() {
            if (mode == STARTING) {
                return rampCurrent(peak(), ramp, rampSeconds);
            }
            if (mode == RUNNING) {
                return lost == 0 ? rated : rated * 3 / 2;
            }
            return 0;
        }

        int change(int newMode) {
            int previous = mode;
            mode = newMode;
            return previous;
        }

        int trip(int newReason) {
            mode = TRIPPED;
            tripReason = newReason;
            accounts[TIMES_TRIPPED]++;
            return newReason == HEAT ? TRIPS_FOR_HEAT : TRIPS_FOR_PHASES;
        }

        void countSecond() {
            if (turns()) {
                accounts[SECONDS_TURNED]++;
            } else if (mode == WAITING) {
                accounts[SECONDS_WAITED]++;
            }
        }

        void exchangeHeat(boolean fan) {
            int taken = heatOf(draw());
            if (lost != 0) {
                taken *= 2;
            }
            heat += taken;
            int given = givenOff(heat, turns(), fan);
            heat -= given;
            accounts[HEAT_TAKEN_IN] += taken;
            accounts[HEAT_GIVEN_OFF] += given;
        }

        /** Changes the mode as point 3 of a second asks, and answers the kind of the event. */
        int endSecond() {
            // Counted here alone: what happens to the phases between two seconds is not seen.
            lossSeconds = mode == RUNNING && lost != 0 ? lossSeconds + 1 : 0;
            if (!turns()) {
                return NO_EVENT;
            }
            if (heat > limit) {
                return trip(HEAT);
            }
            if (lossSeconds >= LOSS_SECONDS) {
                return trip(PHASES);
            }
            if (mode == RUNNING) {
                return NO_EVENT;
            }
            rampSeconds++;
            if (rampSeconds < ramp) {
                return NO_EVENT;
            }
            mode = RUNNING;
            return RUNS;
        }
    }

    /** All that undo() and restore() bring back. */
    private static final class State {
        final Motor[] motors;
        final Timetable timetable;
        final EventLog events;
        int motorCount;
        int clock;
        int limit;
        boolean fan;
        int refusedItems;

        State() {
            motors = new Motor[MOST_MOTORS];
            for (int number = 0; number < MOST_MOTORS; number++) {
                motors[number] = new Motor(number);
            }
            timetable = new Timetable();
            events = new EventLog();
            limit = 500;
        }

        void copyFrom(State other) {
            for (int number = 0; number < other.motorCount; number++) {
                motors[number].copyFrom(other.motors[number]);
            }
            timetable.copyFrom(other.timetable);
            events.copyFrom(other.events);
            motorCount = other.motorCount;
            clock = other.clock;
            limit = other.limit;
            fan = other.fan;
            refusedItems = other.refusedItems;
        }

        Motor find(int number) {
            return number < 0 || number >= motorCount ? null : motors[number];
        }

        void note(Motor motor, int kind) {
            if (kind != NO_EVENT) {
                events.add(clock, motor.number, kind);
            }
        }

        int urgency(Motor motor) {
            return motor.need + (clock - motor.requestedAt) / 10;
        }

        boolean isAhead(int number, int otherNumber) {
            Motor motor = motors[number];
            Motor other = motors[otherNumber];
            int urgency = urgency(motor);
            int otherUrgency = urgency(other);
            if (urgency != otherUrgency) {
                return urgency > otherUrgency;
            }
            if (motor.requestedAt != other.requestedAt) {
                return motor.requestedAt < other.requestedAt;
            }
            return number < otherNumber;
        }

        /** Answers the reason for which a motor that is waiting cannot start, or POSSIBLE. */
        int reasonAgainst(Motor motor) {
            if (motor.lost != 0) {
                return PHASES;
            }
            if (motor.credit() < motor.heatToStart) {
                return HEAT;
            }
            return motor.peak() + takenCurrent() > limit ? BAY_CURRENT : POSSIBLE;
        }

        int takenCurrent() {
            int sum = 0;
            for (int number = 0; number < motorCount; number++) {
                Motor motor = motors[number];
                sum += motor.mode == STARTING ? motor.peak() : motor.draw();
            }
            return sum;
        }

        int motorsInMode(int mode) {
            int found = 0;
            for (int number = 0; number < motorCount; number++) {
                if (motors[number].mode == mode) {
                    found++;
                }
            }
            return found;
        }

        int sumOfAccount(int what) {
            int sum = 0;
            for (int number = 0; number < motorCount; number++) {
                sum += motors[number].accounts[what];
            }
            return sum;
        }

        int sumOfHeat() {
            int sum = 0;
            for (int number = 0; number < motorCount; number++) {
                sum += motors[number].heat;
            }
            return sum;
        }

        int sumOfDraws() {
            int sum = 0;
            for (int number = 0; number < motorCount; number++) {
                sum += motors[number].draw();
            }
            return sum;
        }
    }

    /** The latest states, in rows that are made once and used again. */
    private static final class History {
        final State[] states;
        int size;

        History() {
            states = new State[MOST_STATES];
            for (int place = 0; place < MOST_STATES; place++) {
                states[place] = new State();
            }
        }

        void record(State state) {
            if (size >= MOST_STATES) {
                dropOldest();
            }
            states[size].copyFrom(state);
            size++;
        }

        private void dropOldest() {
            State oldest = states[0];
            for (int place = 1; place < MOST_STATES; place++) {
                states[place - 1] = states[place];
            }
            states[MOST_STATES - 1] = oldest;
            size = MOST_STATES - 1;
        }

        boolean takeBack(State state) {
            if (size < 1) {
                return false;
            }
            size--;
            state.copyFrom(states[size]);
            return true;
        }
    }

    /** The latest events, in a ring: the event number n stands at n modulo the length. */
    private static final class EventLog {
        final int[] time;
        final int[] motor;
        final int[] kind;
        int total;

        EventLog() {
            time = new int[MOST_EVENTS];
            motor = new int[MOST_EVENTS];
            kind = new int[MOST_EVENTS];
        }

        void copyFrom(EventLog other) {
            System.arraycopy(other.time, 0, time, 0, MOST_EVENTS);
            System.arraycopy(other.motor, 0, motor, 0, MOST_EVENTS);
            System.arraycopy(other.kind, 0, kind, 0, MOST_EVENTS);
            total = other.total;
        }

        void add(int newTime, int newMotor, int newKind) {
            int place = Math.floorMod(total, MOST_EVENTS);
            time[place] = newTime;
            motor[place] = newMotor;
            kind[place] = newKind;
            total++;
        }

        int tell(int back, int what) {
            if (back < 0 || back >= Math.min(total, MOST_EVENTS)) {
                return NONE;
            }
            int place = Math.floorMod(total - 1 - back, MOST_EVENTS);
            switch (what) {
                case 0: return time[place];
                case 1: return motor[place];
                default: return kind[place];
            }
        }
    }

    /** The items of a timetable; those ahead of next have been carried out. */
    private static final class Timetable {
        final int[] due;
        final int[] order;
        final int[] first;
        final int[] second;
        int size;
        int next;

        Timetable() {
            due = new int[MOST_ITEMS];
            order = new int[MOST_ITEMS];
            first = new int[MOST_ITEMS];
            second = new int[MOST_ITEMS];
        }

        void copyFrom(Timetable other) {
            System.arraycopy(other.due, 0, due, 0, MOST_ITEMS);
            System.arraycopy(other.order, 0, order, 0, MOST_ITEMS);
            System.arraycopy(other.first, 0, first, 0, MOST_ITEMS);
            System.arraycopy(other.second, 0, second, 0, MOST_ITEMS);
            size = other.size;
            next = other.next;
        }

        void empty() {
            size = 0;
            next = 0;
        }

        void add(int newDue, int newOrder, int newFirst, int newSecond) {
            if (size < MOST_ITEMS) {
                due[size] = newDue;
                order[size] = newOrder;
                first[size] = newFirst;
                second[size] = newSecond;
                size++;
            }
        }

        int left() {
            return size - next;
        }

        int tell(int ahead, int what, int clock) {
            if (ahead < 0 || ahead >= left()) {
                return NONE;
            }
            int place = next + ahead;
            switch (what) {
                case 0: return due[place] - clock;
                case 1: return order[place];
                case 2: return first[place];
                default: return second[place];
            }
        }
    }

    /** The text that was typed. Each part that is read moves "at" on, or leaves it at the fault. */
    private static final class TimetableText {
        final char[] characters;
        int length;
        int at;
        int time;
        int order;
        int first;
        int second;

        TimetableText() {
            characters = new char[MOST_CHARACTERS];
        }

        boolean readInto(Timetable draft, int clock) {
            at = 0;
            time = 0;
            draft.empty();
            for (int round = 0; round <= length; round++) {
                if (!readItem()) {
                    return false;
                }
                draft.add(clock + time, order, first, second);
                if (at >= length) {
                    return true;
                }
                if (characters[at] != ';') {
                    return false;
                }
                at++;
            }
            return false;
        }

        private boolean readItem() {
            return readTime() && readBlank() && readOrder() && readBlank() && readNumbers();
        }

        private int partEnd() {
            for (int end = at; end < length; end++) {
                if (characters[end] == ' ' || characters[end] == ';') {
                    return end;
                }
            }
            return length;
        }

        private boolean readBlank() {
            if (at >= length || characters[at] != ' ') {
                return false;
            }
            at++;
            return true;
        }

        private boolean readTime() {
            int end = partEnd();
            int digits = end - at;
            if (isOutside(digits, 1, 4) || digits > 1 && characters[at] == '0') {
                return false;
            }
            int read = 0;
            for (int place = at; place < end; place++) {
                if (isOutside(characters[place], '0', '9')) {
                    return false;
                }
                read = read * 10 + (characters[place] - '0');
            }
            if (read < time) {
                return false;
            }
            time = read;
            at = end;
            return true;
        }

        private boolean readOrder() {
            int end = partEnd();
            for (int candidate = 0; candidate < ORDERS; candidate++) {
                if (isPart(wordOf(candidate), end)) {
                    order = candidate;
                    at = end;
                    return true;
                }
            }
            return false;
        }

        private static String wordOf(int order) {
            switch (order) {
                case ORDER_START: return "start";
                case ORDER_STOP: return "stop";
                case ORDER_LOSE: return "lose";
                case ORDER_RESET: return "reset";
                default: return "fan";
            }
        }

        private boolean isPart(String word, int end) {
            if (word.length() != end - at) {
                return false;
            }
            for (int place = 0; place < word.length(); place++) {
                if (characters[at + place] != word.charAt(place)) {
                    return false;
                }
            }
            return true;
        }

        private boolean readNumbers() {
            second = NONE;
            first = readDigit(order == ORDER_FAN ? '1' : '7');
            if (first == NONE || order != ORDER_LOSE) {
                return first != NONE;
            }
            if (!readBlank()) {
                return false;
            }
            second = readDigit('7');
            return second != NONE;
        }

        private int readDigit(char highest) {
            int end = partEnd();
            if (end - at != 1 || isOutside(characters[at], '0', highest)) {
                return NONE;
            }
            int digit = characters[at] - '0';
            at = end;
            return digit;
        }
    }
}
