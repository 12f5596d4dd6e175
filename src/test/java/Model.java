import java.util.ArrayList;
import java.util.List;
import java.util.regex.Pattern;

/** The document once more, in its plainest form and without thrift, to compare long runs of calls with. */
final class Model {
    static final int NO_SUCH_PUMP = -1001;
    static final int BAD_VALUE = -1002;
    static final int NOT_POSSIBLE = -1003;
    static final int FULL = -1004;
    static final int NONE = -1005;

    static final class Pump {
        long supplyHead, driveLength, area, friction, lift;
        boolean runs;
        long speed;
        boolean open = true;
        long openTicks;
        long kind;
        long setting = 60;
        long volume = 400;
        boolean snifter;
        long water;
        long air = 400;
        long tank;
        long beats, wasted, relieved, lifted, overflowed, starved;
        long lastSlamOrStart;
        List<Long> intervals = new ArrayList<>();
        List<Long> trace = new ArrayList<>();
        // What the latest tick did.
        long flowTaken;
        long delivered;
        boolean slammed;
        List<Integer> kinds = new ArrayList<>();

        Pump copy() {
            Pump p = new Pump();
            p.supplyHead = supplyHead; p.driveLength = driveLength; p.area = area; p.friction = friction; p.lift = lift;
            p.runs = runs; p.speed = speed; p.open = open; p.openTicks = openTicks; p.kind = kind; p.setting = setting;
            p.volume = volume; p.snifter = snifter; p.water = water; p.air = air; p.tank = tank;
            p.beats = beats; p.wasted = wasted; p.relieved = relieved; p.lifted = lifted;
            p.overflowed = overflowed; p.starved = starved; p.lastSlamOrStart = lastSlamOrStart;
            p.intervals = new ArrayList<>(intervals);
            p.trace = new ArrayList<>(trace);
            return p;
        }

        Pump atRest() {
            Pump p = copy();
            p.speed = 0;
            p.open = true;
            p.openTicks = 0;
            return p;
        }

        long head() {
            long head = 100 * air / (volume - water) - 100;
            return head < 0 ? 0 : head;
        }

        boolean slamRule() {
            return kind == 0 ? speed >= setting : kind == 1 ? speed * speed / 100 >= setting : openTicks >= setting;
        }

        void tick(long basin, long now) {
            flowTaken = 0;
            delivered = 0;
            slammed = false;
            kinds.clear();
            long flow = area * speed / 10;
            if (flow > basin) {
                speed = 0;
                open = true;
                openTicks = 0;
                starved++;
                kinds.add(1);
            } else {
                flowTaken = flow;
                if (open) {
                    stepTwo(flow, now);
                } else {
                    stepThree(flow);
                }
            }
            if (head() > lift) {
                delivered = Math.min(water, 1 + (head() - lift) / 10);
                water -= delivered;
                lifted += delivered;
                tank += delivered;
                if (tank > 30000) {
                    overflowed += tank - 30000;
                    tank = 30000;
                    kinds.add(3);
                }
            }
            long low = speed & 255;
            trace.add(0, low > 127 ? low - 256 : low);
            if (trace.size() > 32) {
                trace.remove(32);
            }
        }

        private void stepTwo(long flow, long now) {
            wasted += flow;
            speed = speed + 100 * supplyHead / driveLength - friction * speed * speed / 100000;
            speed = speed < 0 ? 0 : speed > 2000 ? 2000 : speed;
            openTicks++;
            if (!slamRule()) {
                return;
            }
            slammed = true;
            open = false;
            beats++;
            intervals.add(0, now - lastSlamOrStart);
            if (intervals.size() > 16) {
                intervals.remove(16);
            }
            lastSlamOrStart = now;
            long least = volume / 10;
            long before = air;
            air = snifter ? Math.min(volume, air + 2) : Math.max(least, air - 1);
            if (air == least && before > least) {
                kinds.add(4);
            }
        }

        private void stepThree(long flow) {
            long room = volume - volume / 10 - water;
            long taken = flow < room ? flow : room;
            water += taken;
            relieved += flow - taken;
            if (flow - taken >= 1) {
                kinds.add(2);
            }
            long d = head() - supplyHead;
            if (d < 0) {
                d = 0;
            }
            speed -= 1 + 100 * d / driveLength;
            if (speed < 1) {
                speed = 0;
                open = true;
                openTicks = 0;
            }
        }
    }

    static final class Station {
        long time;
        long basin = 5000;
        long spilled;
        long inflow = 100;
        List<Pump> pumps = new ArrayList<>();

        Station copy() {
            Station s = new Station();
            s.time = time; s.basin = basin; s.spilled = spilled; s.inflow = inflow;
            for (Pump p : pumps) {
                s.pumps.add(p.copy());
            }
            return s;
        }

        void pour(long liters) {
            basin += liters;
            if (basin > 20000) {
                spilled += basin - 20000;
                basin = 20000;
            }
        }
    }

    private Station now = new Station();
    private final List<Station> states = new ArrayList<>();
    private final List<int[]> incidents = new ArrayList<>();
    private String text = "";
    private int failure = NONE;
    private boolean inText;

    private Pump pump(int number) {
        return number >= 0 && number < now.pumps.size() ? now.pumps.get(number) : null;
    }

    private void act() {
        if (inText) {
            return;
        }
        states.add(now.copy());
        if (states.size() > 8) {
            states.remove(0);
        }
    }

    private int running() {
        int count = 0;
        for (Pump p : now.pumps) {
            count += p.runs ? 1 : 0;
        }
        return count;
    }

    int addPump(int supplyHead, int driveLength, int area, int friction, int lift) {
        boolean good = supplyHead >= 10 && supplyHead <= 99 && driveLength >= 10 && driveLength <= 400
                && area >= 1 && area <= 20 && friction >= 0 && friction <= 100 && lift > supplyHead && lift <= 500;
        if (!good) {
            return BAD_VALUE;
        }
        if (now.pumps.size() == 4) {
            return FULL;
        }
        act();
        Pump p = new Pump();
        p.supplyHead = supplyHead; p.driveLength = driveLength; p.area = area; p.friction = friction; p.lift = lift;
        now.pumps.add(p);
        return now.pumps.size() - 1;
    }

    int setValve(int pump, int kind, int setting) {
        Pump p = pump(pump);
        if (p == null) {
            return NO_SUCH_PUMP;
        }
        if (kind < 0 || kind > 2 || setting < 1 || setting > 500) {
            return BAD_VALUE;
        }
        if (p.runs) {
            return NOT_POSSIBLE;
        }
        act();
        int previous = (int) p.setting;
        p.kind = kind;
        p.setting = setting;
        return previous;
    }

    int setChamber(int pump, int volume, boolean snifter) {
        Pump p = pump(pump);
        if (p == null) {
            return NO_SUCH_PUMP;
        }
        if (volume < 50 || volume > 2000) {
            return BAD_VALUE;
        }
        if (p.runs) {
            return NOT_POSSIBLE;
        }
        act();
        int water = (int) p.water;
        now.pour(water);
        p.water = 0;
        p.volume = volume;
        p.air = volume;
        p.snifter = snifter;
        return water;
    }

    int setInflow(int liters) {
        if (liters < 0 || liters > 500) {
            return BAD_VALUE;
        }
        act();
        int previous = (int) now.inflow;
        now.inflow = liters;
        return previous;
    }

    int start(int pump) {
        Pump p = pump(pump);
        if (p == null) {
            return NO_SUCH_PUMP;
        }
        if (p.runs) {
            return NOT_POSSIBLE;
        }
        act();
        p.runs = true;
        p.lastSlamOrStart = now.time;
        return running();
    }

    int stop(int pump) {
        Pump p = pump(pump);
        if (p == null) {
            return NO_SUCH_PUMP;
        }
        if (!p.runs) {
            return NOT_POSSIBLE;
        }
        act();
        p.runs = false;
        p.speed = 0;
        p.open = true;
        p.openTicks = 0;
        return running();
    }

    int emptyTank(int pump) {
        Pump p = pump(pump);
        if (p == null) {
            return NO_SUCH_PUMP;
        }
        if (p.tank == 0) {
            return NOT_POSSIBLE;
        }
        act();
        int water = (int) p.tank;
        p.tank = 0;
        return water;
    }

    int pass(int ticks) {
        if (ticks < 1 || ticks > 200) {
            return BAD_VALUE;
        }
        if (now.time + ticks > 20000) {
            return NOT_POSSIBLE;
        }
        act();
        long delivered = 0;
        for (int i = 0; i < ticks; i++) {
            now.pour(now.inflow);
            for (int n = 0; n < now.pumps.size(); n++) {
                Pump p = now.pumps.get(n);
                if (!p.runs) {
                    continue;
                }
                p.tick(now.basin, now.time);
                now.basin -= p.flowTaken;
                delivered += p.delivered;
                for (int kind : p.kinds) {
                    incidents.add(new int[] {kind, n, (int) now.time});
                }
            }
            now.time++;
        }
        return (int) delivered;
    }

    int undo() {
        if (states.isEmpty()) {
            return NONE;
        }
        now = states.remove(states.size() - 1);
        return states.size();
    }

    int type(int code) {
        if (code < 33 || code > 126) {
            return BAD_VALUE;
        }
        if (text.length() == 40) {
            return FULL;
        }
        text += (char) code;
        return text.length();
    }

    int clearText() {
        int length = text.length();
        text = "";
        return length;
    }

    private static final String COMMAND = "(?:[rhe][0-9]|s[0-9]=[0-9]{1,3}|[iw][0-9]{1,3})";
    private static final Pattern CORRECT = Pattern.compile(COMMAND + "(?:;" + COMMAND + ")*");
    private static final String[] COMPLETIONS = {"", "0", "=0", "0=0", "r0"};

    private static boolean canBecomeCorrect(String start) {
        for (String rest : COMPLETIONS) {
            if (CORRECT.matcher(start + rest).matches()) {
                return true;
            }
        }
        return false;
    }

    static int syntaxError(String text) {
        if (CORRECT.matcher(text).matches()) {
            return NONE;
        }
        int good = 0;
        while (good < text.length() && canBecomeCorrect(text.substring(0, good + 1))) {
            good++;
        }
        return good;
    }

    int syntaxError() {
        return syntaxError(text);
    }

    int execute() {
        int error = syntaxError();
        if (error != NONE) {
            return -2000 - error;
        }
        act();
        inText = true;
        failure = 0;
        int done = 0;
        for (String command : text.split(";")) {
            int answer = perform(command);
            if (answer < 0) {
                failure = answer;
                break;
            }
            done++;
        }
        inText = false;
        return done;
    }

    private int perform(String command) {
        int digit = command.charAt(1) - '0';
        switch (command.charAt(0)) {
            case 'r': return start(digit);
            case 'h': return stop(digit);
            case 'e': return emptyTank(digit);
            case 'i': return setInflow(Integer.parseInt(command.substring(1)));
            case 'w': return pass(Integer.parseInt(command.substring(1)));
            default:
                int kind = pump(digit) == null ? 0 : (int) pump(digit).kind;
                return setValve(digit, kind, Integer.parseInt(command.substring(3)));
        }
    }

    int failure() {
        return failure;
    }

    int time() {
        return (int) now.time;
    }

    int basin() {
        return (int) now.basin;
    }

    int spilled() {
        return (int) now.spilled;
    }

    int pumps() {
        return now.pumps.size();
    }

    int incidents() {
        return incidents.size();
    }

    int incident(int what, int back) {
        if (back < 0) {
            return BAD_VALUE;
        }
        if (back >= 20 || back >= incidents.size()) {
            return NONE;
        }
        return incidents.get(incidents.size() - 1 - back)[what];
    }

    /** The values of a pump that need nothing but its number, in the order of the document's face. */
    long[] values(int pump) {
        Pump p = pump(pump);
        if (p == null) {
            return null;
        }
        return new long[] {p.runs ? p.open ? 1 : 2 : 0, p.speed, p.openTicks, p.water, p.air, p.head(), p.beats,
            p.wasted, p.relieved, p.lifted, p.overflowed, p.starved, p.tank};
    }

    int interval(int pump, int back) {
        Pump p = pump(pump);
        return p == null ? NO_SUCH_PUMP : back < 0 ? BAD_VALUE
                : back >= p.intervals.size() ? NONE : (int) (long) p.intervals.get(back);
    }

    int trace(int pump, int back) {
        Pump p = pump(pump);
        return p == null ? NO_SUCH_PUMP : back < 0 ? BAD_VALUE
                : back >= p.trace.size() ? NONE : (int) (long) p.trace.get(back);
    }

    int efficiency(int pump) {
        Pump p = pump(pump);
        if (p == null) {
            return NO_SUCH_PUMP;
        }
        long through = p.wasted + p.relieved + p.lifted;
        return through == 0 ? NONE : (int) (1000 * p.lifted * p.lift / (through * p.supplyHead));
    }

    int bestPump() {
        int best = NONE;
        for (int i = now.pumps.size() - 1; i >= 0; i--) {
            if (efficiency(i) != NONE && (best == NONE || efficiency(i) >= efficiency(best))) {
                best = i;
            }
        }
        return best;
    }

    private static final long ENOUGH = 1L << 40;

    int ticksToSlam(int pump) {
        if (pump(pump) == null) {
            return NO_SUCH_PUMP;
        }
        Pump p = pump(pump).copy();
        for (int tick = 1; tick <= 2000; tick++) {
            p.tick(ENOUGH, 0);
            if (p.slammed) {
                return tick;
            }
        }
        return NONE;
    }

    private static long[] tried(Pump p, int ticks) {
        long[] sums = new long[2];
        for (int tick = 1; tick <= ticks; tick++) {
            p.tick(ENOUGH, 0);
            sums[0] += p.delivered;
            sums[1] += p.flowTaken;
        }
        return sums;
    }

    int deliveredIn(int pump, int ticks) {
        return pump(pump) == null ? NO_SUCH_PUMP : ticks < 1 || ticks > 500 ? BAD_VALUE
                : (int) tried(pump(pump).copy(), ticks)[0];
    }

    int drawnIn(int pump, int ticks) {
        return pump(pump) == null ? NO_SUCH_PUMP : ticks < 1 || ticks > 500 ? BAD_VALUE
                : (int) tried(pump(pump).copy(), ticks)[1];
    }

    int period(int pump) {
        if (pump(pump) == null) {
            return NO_SUCH_PUMP;
        }
        Pump p = pump(pump).copy();
        List<long[]> slams = new ArrayList<>();
        for (int tick = 1; tick <= 2000; tick++) {
            p.tick(ENOUGH, 0);
            if (p.slammed) {
                for (long[] slam : slams) {
                    if (slam[1] == p.speed && slam[2] == p.water && slam[3] == p.air) {
                        return tick - (int) slam[0];
                    }
                }
                slams.add(new long[] {tick, p.speed, p.water, p.air});
            }
        }
        return NONE;
    }

    int bestLength(int pump, int ticks) {
        if (pump(pump) == null) {
            return NO_SUCH_PUMP;
        }
        if (ticks < 1 || ticks > 300) {
            return BAD_VALUE;
        }
        long[] delivered = new long[41];
        for (int i = 1; i <= 40; i++) {
            Pump p = pump(pump).atRest();
            p.driveLength = 10 * i;
            delivered[i] = tried(p, ticks)[0];
        }
        return 10 * firstGreatest(delivered);
    }

    int bestSetting(int pump, int ticks) {
        if (pump(pump) == null) {
            return NO_SUCH_PUMP;
        }
        if (ticks < 1 || ticks > 300) {
            return BAD_VALUE;
        }
        long[] delivered = new long[51];
        for (int i = 1; i <= 50; i++) {
            Pump p = pump(pump).atRest();
            p.setting = 10 * i;
            delivered[i] = tried(p, ticks)[0];
        }
        return 10 * firstGreatest(delivered);
    }

    private static int firstGreatest(long[] values) {
        int first = 1;
        for (int i = values.length - 1; i >= 1; i--) {
            if (values[i] >= values[first]) {
                first = i;
            }
        }
        return first;
    }
}
