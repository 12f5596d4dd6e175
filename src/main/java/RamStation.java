/** A station of hydraulic ram pumps that share one basin, as ../shared/DOC.md tells it. */
public final class RamStation {
    public static final int NO_SUCH_PUMP = -1001;
    public static final int BAD_VALUE = -1002;
    public static final int NOT_POSSIBLE = -1003;
    public static final int FULL = -1004;
    public static final int NONE = -1005;

    private static final int SYNTAX_ERROR_BASE = -2000;
    private static final int PUMPS = 4;
    private static final int BASIN_LITERS = 20000;
    private static final int TANK_LITERS = 30000;
    private static final int LAST_TIME = 20000;
    private static final int RECORDED_STATES = 8;
    private static final int KEPT_INCIDENTS = 20;
    private static final int TEXT_SIGNS = 40;
    private static final int TOP_SPEED = 2000;
    private static final int TOP_SETTING = 500;
    private static final int TOP_LENGTH = 400;
    private static final int LONG_TRIAL = 2000;
    private static final int COUNTED_TRIAL = 500;
    private static final int COMPARED_TRIAL = 300;
    // Far above the greatest flow, so that a pump in a trial never starves.
    private static final int ENOUGH_WATER = 1000000;
    private static final long NO_SLAM = -1;

    private static final int STARVING = 1;
    private static final int RELIEVING = 2;
    private static final int OVERFLOWING = 3;
    private static final int AIR_GONE = 4;

    private final State state = new State();
    private final State[] recorded = new State[RECORDED_STATES];
    private int recordedCount;
    private int recordNext;
    private boolean executing;
    private int lastFailure = NONE;
    private final CommandText text = new CommandText();
    private final IncidentLog log = new IncidentLog();
    private final Report report = new Report();
    private final Pump trial = new Pump(0, 1, 0, 0, 0);
    private final long[] slamMarks = new long[LONG_TRIAL];

    public RamStation() {
        for (int i = 0; i < recorded.length; i++) {
            recorded[i] = new State();
        }
    }

    // ---- construction and settings

    public int addPump(int supplyHead, int driveLength, int area, int friction, int lift) {
        if (outside(supplyHead, 10, 99) || outside(driveLength, 10, TOP_LENGTH) || outside(area, 1, 20)
                || outside(friction, 0, 100) || outside(lift, supplyHead + 1, 500)) {
            return BAD_VALUE;
        }
        int number = state.pumpCount;
        if (outside(number, 0, state.pumps.length - 1)) {
            return FULL;
        }
        keepState();
        state.pumps[number] = new Pump(supplyHead, driveLength, area, friction, lift);
        state.pumpCount = number + 1;
        return number;
    }

    public int setValve(int pump, int kind, int setting) {
        Pump found = state.pumpAt(pump);
        if (found == null) {
            return NO_SUCH_PUMP;
        }
        if (outside(kind, 0, 2) || outside(setting, 1, TOP_SETTING)) {
            return BAD_VALUE;
        }
        if (found.running) {
            return NOT_POSSIBLE;
        }
        keepState();
        int previous = found.setting;
        found.valveKind = kind;
        found.setting = setting;
        return previous;
    }

    public int setChamber(int pump, int volume, boolean snifter) {
        Pump found = state.pumpAt(pump);
        if (found == null) {
            return NO_SUCH_PUMP;
        }
        if (outside(volume, 50, 2000)) {
            return BAD_VALUE;
        }
        if (found.running) {
            return NOT_POSSIBLE;
        }
        keepState();
        int water = found.chamber.water;
        state.fillBasin(water);
        found.chamber.renew(volume, snifter);
        return water;
    }

    public int setInflow(int liters) {
        if (outside(liters, 0, 500)) {
            return BAD_VALUE;
        }
        keepState();
        int previous = state.inflow;
        state.inflow = liters;
        return previous;
    }

    public int start(int pump) {
        Pump found = state.pumpAt(pump);
        if (found == null) {
            return NO_SUCH_PUMP;
        }
        if (found.running) {
            return NOT_POSSIBLE;
        }
        keepState();
        found.running = true;
        found.intervalStart = state.time;
        return state.runningPumps();
    }

    public int stop(int pump) {
        Pump found = state.pumpAt(pump);
        if (found == null) {
            return NO_SUCH_PUMP;
        }
        if (!found.running) {
            return NOT_POSSIBLE;
        }
        keepState();
        found.running = false;
        found.rest();
        return state.runningPumps();
    }

    public int emptyTank(int pump) {
        Pump found = state.pumpAt(pump);
        if (found == null) {
            return NO_SUCH_PUMP;
        }
        if (found.tank == 0) {
            return NOT_POSSIBLE;
        }
        keepState();
        int water = found.tank;
        found.tank = 0;
        return water;
    }

    public int pass(int ticks) {
        if (outside(ticks, 1, 200)) {
            return BAD_VALUE;
        }
        if (state.time + ticks > LAST_TIME) {
            return NOT_POSSIBLE;
        }
        keepState();
        int delivered = 0;
        for (int i = 0; i < ticks; i++) {
            delivered += tickStation();
        }
        return delivered;
    }

    public int undo() {
        if (recordedCount < 1) {
            return NONE;
        }
        if (outside(recordNext, 1, recorded.length)) {
            recordNext = recorded.length;
        }
        recordNext--;
        recordedCount--;
        State latest = recorded[recordNext];
        if (latest != null) {
            state.copyFrom(latest);
        }
        return recordedCount;
    }

    // ---- command texts

    public int type(int code) {
        if (outside(code, 33, 126)) {
            return BAD_VALUE;
        }
        if (outside(text.length, 0, text.signs.length - 1)) {
            return FULL;
        }
        text.signs[text.length] = (char) code;
        text.length++;
        return text.length;
    }

    public int clearText() {
        int previous = text.length;
        text.length = 0;
        return previous;
    }

    public int syntaxError() {
        return text.firstError();
    }

    public int execute() {
        int error = text.firstError();
        if (error != NONE) {
            return SYNTAX_ERROR_BASE - error;
        }
        keepState();
        executing = true;
        lastFailure = 0;
        int done = 0;
        for (int i = 0; i < text.length && lastFailure == 0; i++) {
            if (text.commandStartsAt(i)) {
                int answer = perform(i);
                if (answer < 0) {
                    lastFailure = answer;
                } else {
                    done++;
                }
            }
        }
        executing = false;
        return done;
    }

    public int failure() {
        return lastFailure;
    }

    // ---- the station

    public int time() {
        return state.time;
    }

    public int basin() {
        return state.basin;
    }

    public int spilled() {
        return state.spilled;
    }

    public int pumps() {
        return state.pumpCount;
    }

    public int incidents() {
        return log.total;
    }

    public int incidentKind(int back) {
        return back < 0 ? BAD_VALUE : log.kinds.latest(back);
    }

    public int incidentPump(int back) {
        return back < 0 ? BAD_VALUE : log.pumpNumbers.latest(back);
    }

    public int incidentTime(int back) {
        return back < 0 ? BAD_VALUE : log.times.latest(back);
    }

    // ---- a pump

    public int phase(int pump) {
        Pump found = state.pumpAt(pump);
        if (found == null) {
            return NO_SUCH_PUMP;
        }
        if (!found.running) {
            return 0;
        }
        return found.closed ? 2 : 1;
    }

    public int speed(int pump) {
        Pump found = state.pumpAt(pump);
        return found == null ? NO_SUCH_PUMP : found.speed;
    }

    public int openTicks(int pump) {
        Pump found = state.pumpAt(pump);
        return found == null ? NO_SUCH_PUMP : found.openTicks;
    }

    public int chamberWater(int pump) {
        Pump found = state.pumpAt(pump);
        return found == null ? NO_SUCH_PUMP : found.chamber.water;
    }

    public int air(int pump) {
        Pump found = state.pumpAt(pump);
        return found == null ? NO_SUCH_PUMP : found.chamber.air;
    }

    public int chamberHead(int pump) {
        Pump found = state.pumpAt(pump);
        return found == null ? NO_SUCH_PUMP : found.chamber.head();
    }

    public int beats(int pump) {
        Pump found = state.pumpAt(pump);
        return found == null ? NO_SUCH_PUMP : found.counters.beats;
    }

    public int wasted(int pump) {
        Pump found = state.pumpAt(pump);
        return found == null ? NO_SUCH_PUMP : found.counters.wasted;
    }

    public int relieved(int pump) {
        Pump found = state.pumpAt(pump);
        return found == null ? NO_SUCH_PUMP : found.counters.relieved;
    }

    public int lifted(int pump) {
        Pump found = state.pumpAt(pump);
        return found == null ? NO_SUCH_PUMP : found.counters.lifted;
    }

    public int overflowed(int pump) {
        Pump found = state.pumpAt(pump);
        return found == null ? NO_SUCH_PUMP : found.counters.overflowed;
    }

    public int starved(int pump) {
        Pump found = state.pumpAt(pump);
        return found == null ? NO_SUCH_PUMP : found.counters.starved;
    }

    public int tank(int pump) {
        Pump found = state.pumpAt(pump);
        return found == null ? NO_SUCH_PUMP : found.tank;
    }

    public int interval(int pump, int back) {
        Pump found = state.pumpAt(pump);
        if (found == null) {
            return NO_SUCH_PUMP;
        }
        return back < 0 ? BAD_VALUE : found.intervals.latest(back);
    }

    public int trace(int pump, int back) {
        Pump found = state.pumpAt(pump);
        if (found == null) {
            return NO_SUCH_PUMP;
        }
        return back < 0 ? BAD_VALUE : found.trace.latest(back);
    }

    public int efficiency(int pump) {
        Pump found = state.pumpAt(pump);
        return found == null ? NO_SUCH_PUMP : found.thousandths();
    }

    public int bestPump() {
        int best = NONE;
        int most = -1;
        for (int i = 0; i < state.pumpCount; i++) {
            int answer = efficiency(i);
            if (answer > most) {
                most = answer;
                best = i;
            }
        }
        return best;
    }

    // ---- trials

    public int ticksToSlam(int pump) {
        Pump found = state.pumpAt(pump);
        if (found == null) {
            return NO_SUCH_PUMP;
        }
        trial.copyFrom(found);
        for (int tick = 1; tick <= LONG_TRIAL; tick++) {
            tickTrial();
            if (report.slammed) {
                return tick;
            }
        }
        return NONE;
    }

    public int deliveredIn(int pump, int ticks) {
        Pump found = state.pumpAt(pump);
        if (found == null) {
            return NO_SUCH_PUMP;
        }
        if (outside(ticks, 1, COUNTED_TRIAL)) {
            return BAD_VALUE;
        }
        trial.copyFrom(found);
        return trialDelivery(ticks);
    }

    public int drawnIn(int pump, int ticks) {
        Pump found = state.pumpAt(pump);
        if (found == null) {
            return NO_SUCH_PUMP;
        }
        if (outside(ticks, 1, COUNTED_TRIAL)) {
            return BAD_VALUE;
        }
        trial.copyFrom(found);
        int drawn = 0;
        for (int i = 0; i < ticks; i++) {
            tickTrial();
            drawn += report.drawn;
        }
        return drawn;
    }

    public int period(int pump) {
        Pump found = state.pumpAt(pump);
        if (found == null) {
            return NO_SUCH_PUMP;
        }
        trial.copyFrom(found);
        for (int i = 0; i < slamMarks.length; i++) {
            tickTrial();
            slamMarks[i] = report.slammed ? trial.slamMark() : NO_SLAM;
        }
        return ticksFromSlamLikeLast();
    }

    public int bestLength(int pump, int ticks) {
        Pump found = state.pumpAt(pump);
        if (found == null) {
            return NO_SUCH_PUMP;
        }
        if (outside(ticks, 1, COMPARED_TRIAL)) {
            return BAD_VALUE;
        }
        int best = 0;
        int most = -1;
        for (int length = 10; length <= TOP_LENGTH; length += 10) {
            int delivered = deliveryFromRest(found, length, found.setting, ticks);
            if (delivered > most) {
                most = delivered;
                best = length;
            }
        }
        return best;
    }

    public int bestSetting(int pump, int ticks) {
        Pump found = state.pumpAt(pump);
        if (found == null) {
            return NO_SUCH_PUMP;
        }
        if (outside(ticks, 1, COMPARED_TRIAL)) {
            return BAD_VALUE;
        }
        int best = 0;
        int most = -1;
        for (int setting = 10; setting <= TOP_SETTING; setting += 10) {
            int delivered = deliveryFromRest(found, found.driveLength, setting, ticks);
            if (delivered > most) {
                most = delivered;
                best = setting;
            }
        }
        return best;
    }

    private static boolean outside(int value, int least, int most) {
        return value < least || value > most;
    }

    // The commands of a text are one act: only execute() itself records the state before them.
    private void keepState() {
        if (executing) {
            return;
        }
        if (outside(recordNext, 0, recorded.length - 1)) {
            recordNext = 0;
        }
        State place = recorded[recordNext];
        if (place != null) {
            place.copyFrom(state);
        }
        recordNext++;
        if (recordedCount < recorded.length) {
            recordedCount++;
        }
    }

    private int tickStation() {
        state.fillBasin(state.inflow);
        int delivered = 0;
        for (int i = 0; i < state.pumpCount; i++) {
            Pump pump = state.pumpAt(i);
            if (pump != null && pump.running) {
                pump.tick(state.basin, state.time, report);
                state.basin -= report.drawn;
                delivered += report.delivered;
                noteIncidents(i);
            }
        }
        state.time++;
        return delivered;
    }

    private void noteIncidents(int pump) {
        if (report.firstIncident != 0) {
            log.add(report.firstIncident, pump, state.time);
        }
        if (report.overflowing) {
            log.add(OVERFLOWING, pump, state.time);
        }
    }

    // The text is correct here, so the letter alone tells where the numbers stand.
    private int perform(int from) {
        int first = text.numberAt(from + 1);
        switch (text.signAt(from)) {
            case 'r':
                return start(first);
            case 'h':
                return stop(first);
            case 'e':
                return emptyTank(first);
            case 's':
                return setValve(first, valveKindOf(first), text.numberAt(from + 3));
            case 'i':
                return setInflow(first);
            default:
                return pass(first);
        }
    }

    private int valveKindOf(int pump) {
        Pump found = state.pumpAt(pump);
        return found == null ? 0 : found.valveKind;
    }

    private void tickTrial() {
        trial.tick(ENOUGH_WATER, state.time, report);
    }

    private int trialDelivery(int ticks) {
        int delivered = 0;
        for (int i = 0; i < ticks; i++) {
            tickTrial();
            delivered += report.delivered;
        }
        return delivered;
    }

    private int deliveryFromRest(Pump pump, int driveLength, int setting, int ticks) {
        trial.copyFrom(pump);
        trial.rest();
        trial.driveLength = driveLength;
        trial.setting = setting;
        return trialDelivery(ticks);
    }

    // The mark of a slam decides all ticks after it. So once two slams are alike, every later slam
    // is like the one that many ticks before it, and looking back from the last slam is enough.
    private int ticksFromSlamLikeLast() {
        int last = -1;
        long lastMark = NO_SLAM;
        for (int i = slamMarks.length - 1; i >= 0; i--) {
            long mark = slamMarks[i];
            if (mark != NO_SLAM && mark == lastMark) {
                return last - i;
            }
            if (mark != NO_SLAM && last < 0) {
                last = i;
                lastMark = mark;
            }
        }
        return NONE;
    }

    /** All that undo restores. */
    private static final class State {
        int time;
        int basin = 5000;
        int spilled;
        int inflow = 100;
        int pumpCount;
        final Pump[] pumps = new Pump[PUMPS];

        State() {
            for (int i = 0; i < pumps.length; i++) {
                pumps[i] = new Pump(0, 1, 0, 0, 0);
            }
        }

        Pump pumpAt(int number) {
            if (number >= pumpCount || outside(number, 0, pumps.length - 1)) {
                return null;
            }
            return pumps[number];
        }

        int runningPumps() {
            int running = 0;
            for (int i = 0; i < pumpCount; i++) {
                Pump pump = pumpAt(i);
                if (pump != null && pump.running) {
                    running++;
                }
            }
            return running;
        }

        void fillBasin(int liters) {
            int kept = Math.min(liters, BASIN_LITERS - basin);
            basin += kept;
            spilled += liters - kept;
        }

        void copyFrom(State other) {
            time = other.time;
            basin = other.basin;
            spilled = other.spilled;
            inflow = other.inflow;
            pumpCount = other.pumpCount;
            for (int i = 0; i < pumpCount; i++) {
                Pump mine = pumpAt(i);
                Pump its = other.pumpAt(i);
                if (mine != null && its != null) {
                    mine.copyFrom(its);
                }
            }
        }
    }

    /** What one tick of a pump did. */
    private static final class Report {
        int drawn;
        int delivered;
        boolean slammed;
        // Steps 1 to 3 of a tick cause at most one incident: its kind, or 0.
        int firstIncident;
        boolean overflowing;

        void clear() {
            drawn = 0;
            delivered = 0;
            slammed = false;
            firstIncident = 0;
            overflowing = false;
        }
    }

    private static final class Pump {
        int supplyHead;
        int driveLength;
        int area;
        int friction;
        int lift;
        boolean running;
        int speed;
        boolean closed;
        int openTicks;
        int valveKind;
        int setting = 60;
        int tank;
        int intervalStart;
        final Chamber chamber = new Chamber();
        final Counters counters = new Counters();
        final Ring intervals = new Ring(16);
        final Ring trace = new Ring(32);

        Pump(int supplyHead, int driveLength, int area, int friction, int lift) {
            this.supplyHead = supplyHead;
            this.driveLength = driveLength;
            this.area = area;
            this.friction = friction;
            this.lift = lift;
        }

        void copyFrom(Pump other) {
            supplyHead = other.supplyHead;
            driveLength = other.driveLength;
            area = other.area;
            friction = other.friction;
            lift = other.lift;
            running = other.running;
            speed = other.speed;
            closed = other.closed;
            openTicks = other.openTicks;
            valveKind = other.valveKind;
            setting = other.setting;
            tank = other.tank;
            intervalStart = other.intervalStart;
            chamber.copyFrom(other.chamber);
            counters.copyFrom(other.counters);
            intervals.copyFrom(other.intervals);
            trace.copyFrom(other.trace);
        }

        void rest() {
            speed = 0;
            closed = false;
            openTicks = 0;
        }

        void tick(int water, int now, Report report) {
            report.clear();
            int flow = area * speed / 10;
            if (flow > water) {
                rest();
                counters.starved++;
                report.firstIncident = STARVING;
            } else {
                report.drawn = flow;
                if (closed) {
                    pushIntoChamber(flow, report);
                } else {
                    gainSpeed(flow);
                    if (slamRuleHolds()) {
                        slam(now, report);
                    }
                }
            }
            deliver(report);
            trace.add((byte) speed);
        }

        void gainSpeed(int flow) {
            counters.wasted += flow;
            int gained = speed + speedFrom(supplyHead) - friction * speed * speed / 100000;
            speed = Math.min(Math.max(gained, 0), TOP_SPEED);
            openTicks++;
        }

        int speedFrom(int head) {
            return driveLength < 1 ? 0 : 100 * head / driveLength;
        }

        boolean slamRuleHolds() {
            if (valveKind == 0) {
                return speed >= setting;
            }
            if (valveKind == 1) {
                return speed * speed / 100 >= setting;
            }
            return openTicks >= setting;
        }

        void slam(int now, Report report) {
            closed = true;
            report.slammed = true;
            counters.beats++;
            intervals.add(now - intervalStart);
            intervalStart = now;
            int before = chamber.air;
            chamber.changeAir();
            if (chamber.air == chamber.leastSpace && before > chamber.leastSpace) {
                report.firstIncident = AIR_GONE;
            }
        }

        void pushIntoChamber(int flow, Report report) {
            int relieved = flow - chamber.take(flow);
            if (relieved > 0) {
                counters.relieved += relieved;
                report.firstIncident = RELIEVING;
            }
            int left = speed - 1 - speedFrom(Math.max(chamber.head() - supplyHead, 0));
            if (left < 1) {
                rest();
            } else {
                speed = left;
            }
        }

        void deliver(Report report) {
            int head = chamber.head();
            if (head <= lift) {
                return;
            }
            int liters = Math.min(chamber.water, 1 + (head - lift) / 10);
            chamber.water -= liters;
            counters.lifted += liters;
            report.delivered = liters;
            int kept = Math.min(liters, TANK_LITERS - tank);
            tank += kept;
            counters.overflowed += liters - kept;
            report.overflowing = liters > kept;
        }

        int thousandths() {
            long through = (long) counters.wasted + counters.relieved + counters.lifted;
            long spent = through * supplyHead;
            if (spent < 1) {
                return NONE;
            }
            return (int) (1000L * counters.lifted * lift / spent);
        }

        /** The speed, the chamber water and the air in one number: each is below 4096. */
        long slamMark() {
            return ((long) speed * 4096 + chamber.water) * 4096 + chamber.air;
        }
    }

    private static final class Chamber {
        int volume = 400;
        int leastSpace = 40;
        boolean snifter;
        int water;
        int air = 400;

        void renew(int newVolume, boolean withSnifter) {
            volume = newVolume;
            leastSpace = newVolume / 10;
            snifter = withSnifter;
            water = 0;
            air = newVolume;
        }

        void copyFrom(Chamber other) {
            volume = other.volume;
            leastSpace = other.leastSpace;
            snifter = other.snifter;
            water = other.water;
            air = other.air;
        }

        int head() {
            int space = volume - water;
            return space < 1 ? 0 : Math.max(100 * air / space - 100, 0);
        }

        int take(int liters) {
            int taken = Math.min(liters, volume - leastSpace - water);
            water += taken;
            return taken;
        }

        void changeAir() {
            if (snifter) {
                air = Math.min(air + 2, volume);
            } else {
                air = Math.max(air - 1, leastSpace);
            }
        }
    }

    private static final class Counters {
        int beats;
        int wasted;
        int relieved;
        int lifted;
        int overflowed;
        int starved;

        void copyFrom(Counters other) {
            beats = other.beats;
            wasted = other.wasted;
            relieved = other.relieved;
            lifted = other.lifted;
            overflowed = other.overflowed;
            starved = other.starved;
        }
    }

    /** The latest numbers of a row, as many as there are places. */
    private static final class Ring {
        final int[] places;
        int count;
        int next;

        Ring(int size) {
            places = new int[Math.max(size, 1)];
        }

        void add(int number) {
            if (next < 0 || next >= places.length) {
                next = 0;
            }
            places[next] = number;
            next++;
            if (count < places.length) {
                count++;
            }
        }

        int latest(int back) {
            if (outside(back, 0, count - 1)) {
                return NONE;
            }
            int at = next - 1 - back;
            if (at < 0) {
                at += places.length;
            }
            return outside(at, 0, places.length - 1) ? NONE : places[at];
        }

        void copyFrom(Ring other) {
            count = other.count;
            next = other.next;
            System.arraycopy(other.places, 0, places, 0, Math.min(places.length, other.places.length));
        }
    }

    private static final class IncidentLog {
        int total;
        final Ring kinds = new Ring(KEPT_INCIDENTS);
        final Ring pumpNumbers = new Ring(KEPT_INCIDENTS);
        final Ring times = new Ring(KEPT_INCIDENTS);

        void add(int kind, int pump, int time) {
            total++;
            kinds.add(kind);
            pumpNumbers.add(pump);
            times.add(time);
        }
    }

    private static final class CommandText {
        private static final int WRONG = -1;
        private static final int LETTER = 0;
        private static final int ONLY_PUMP = 1;
        private static final int PUMP_TO_SET = 2;
        private static final int EQUALS_SIGN = 3;
        private static final int FIRST_DIGIT = 4;
        private static final int SECOND_DIGIT = 5;
        private static final int THIRD_DIGIT = 6;
        private static final int COMMAND_END = 7;

        final char[] signs = new char[TEXT_SIGNS];
        int length;

        char signAt(int index) {
            return index >= length || outside(index, 0, signs.length - 1) ? (char) 0 : signs[index];
        }

        boolean commandStartsAt(int index) {
            return index == 0 || signAt(index - 1) == ';';
        }

        /** The number of at most three digits that begins at an index. */
        int numberAt(int from) {
            int number = 0;
            for (int i = from; i < from + 3 && isDigit(signAt(i)); i++) {
                number = number * 10 + signAt(i) - '0';
            }
            return number;
        }

        int firstError() {
            int place = LETTER;
            for (int i = 0; i < length; i++) {
                place = placeAfter(place, signAt(i));
                if (place == WRONG) {
                    return i;
                }
            }
            return mayEnd(place) ? NONE : length;
        }

        private static boolean isDigit(char sign) {
            return sign >= '0' && sign <= '9';
        }

        private static boolean mayEnd(int place) {
            return place == SECOND_DIGIT || place == THIRD_DIGIT || place == COMMAND_END;
        }

        private static int placeAfter(int place, char sign) {
            if (sign == ';') {
                return mayEnd(place) ? LETTER : WRONG;
            }
            if (place == LETTER) {
                return placeAfterLetter(sign);
            }
            if (place == EQUALS_SIGN) {
                return sign == '=' ? FIRST_DIGIT : WRONG;
            }
            return isDigit(sign) ? placeAfterDigit(place) : WRONG;
        }

        private static int placeAfterLetter(char letter) {
            switch (letter) {
                case 'r':
                case 'h':
                case 'e':
                    return ONLY_PUMP;
                case 's':
                    return PUMP_TO_SET;
                case 'i':
                case 'w':
                    return FIRST_DIGIT;
                default:
                    return WRONG;
            }
        }

        private static int placeAfterDigit(int place) {
            switch (place) {
                case ONLY_PUMP:
                case THIRD_DIGIT:
                    return COMMAND_END;
                case PUMP_TO_SET:
                    return EQUALS_SIGN;
                case FIRST_DIGIT:
                    return SECOND_DIGIT;
                case SECOND_DIGIT:
                    return THIRD_DIGIT;
                default:
                    return WRONG;
            }
        }
    }
}
