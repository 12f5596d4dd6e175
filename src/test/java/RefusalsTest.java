import java.util.function.Function;
import java.util.function.Supplier;
import java.util.function.ToIntFunction;

/** 'Terms': errors. A refused call of every kind, that it changes nothing, and which error comes first. */
public final class RefusalsTest {
    private static final Due DUE = new Due("RefusalsTest");
    private static final int NO_SUCH_PUMP = RamStation.NO_SUCH_PUMP;
    private static final int BAD_VALUE = RamStation.BAD_VALUE;
    private static final int NOT_POSSIBLE = RamStation.NOT_POSSIBLE;
    private static final int FULL = RamStation.FULL;
    private static final int NONE = RamStation.NONE;
    private static final int LEAST = Integer.MIN_VALUE;
    private static final int MOST = Integer.MAX_VALUE;

    public static void main(String[] args) {
        stationsAreAsThought();
        newStation();
        addPump();
        fullOfPumps();
        setValve();
        setChamber();
        setInflow();
        startStopEmptyTank();
        pass();
        passBeyondTheEnd();
        undo();
        type();
        execute();
        commandsThatFail();
        incidents();
        noSuchPump();
        intervalAndTrace();
        efficiency();
        trials();
        trialsWithoutAnswer();
        DUE.end();
    }

    private static void write(RamStation x, String text) {
        x.clearText();
        for (char sign : text.toCharArray()) {
            x.type(sign);
        }
    }

    /** Pump 0 runs and is closed, pump 1 stands with water in chamber and tank, pump 2 is new; 8 states. */
    static RamStation busy() {
        RamStation x = new RamStation();
        x.addPump(99, 10, 20, 0, 100);
        x.setChamber(0, 2000, false);
        x.setValve(0, 2, 1);
        x.addPump(20, 50, 5, 0, 30);
        x.addPump(20, 80, 5, 0, 40);
        x.setInflow(60);
        x.start(1);
        x.pass(60);
        x.stop(1);
        x.start(0);
        x.pass(50);
        x.pass(3);
        write(x, "i77;w4;r9");
        x.execute();
        return x;
    }

    private static RamStation full() {
        RamStation x = new RamStation();
        for (int i = 0; i < 4; i++) {
            x.addPump(20, 50 + i, 5, 0, 30);
            x.start(i);
        }
        x.pass(33);
        write(x, "w200;w200;w200;w200;w200;w200;w200;w1;w1");
        return x;
    }

    private static RamStation late() {
        RamStation x = new RamStation();
        x.addPump(20, 50, 5, 0, 30);
        x.start(0);
        for (int i = 0; i < 99; i++) {
            x.pass(200);
        }
        x.pass(190);
        return x;
    }

    private static void stationsAreAsThought() {
        RamStation x = busy();
        DUE.due("phase 0", x.phase(0), 2);
        DUE.due("phase 1", x.phase(1), 0);
        DUE.due("water in chamber 1", x.chamberWater(1) > 0);
        DUE.due("water in tank 1", x.tank(1) > 0);
        DUE.due("incidents", x.incidents() > 20);
        DUE.due("failure", x.failure(), NO_SUCH_PUMP);
        DUE.due("recorded", x.undo(), 7);
        DUE.due("time", late().time(), 19990);
    }

    /** Of two stations that are made alike only the first one is called. */
    private static void refused(String call, Supplier<RamStation> made, ToIntFunction<RamStation> called, int code) {
        same(call, made, called, code, Readings::withUndo);
        same(call, made, called, code, Readings::withActs);
    }

    private static void same(String call, Supplier<RamStation> made, ToIntFunction<RamStation> called, int code,
            Function<RamStation, int[]> read) {
        RamStation x = made.get();
        DUE.due(call, called.applyAsInt(x), code);
        int[] got = read.apply(x);
        int[] want = read.apply(made.get());
        DUE.due(call + " changes nothing: readings", got.length, want.length);
        for (int i = 0; i < Math.min(got.length, want.length); i++) {
            DUE.due(call + " changes nothing: reading " + i, got[i], want[i]);
        }
    }

    private static void busyRefuses(String call, ToIntFunction<RamStation> called, int code) {
        refused(call, RefusalsTest::busy, called, code);
    }

    private static void newStation() {
        DUE.sentence("errors of a station without pumps");
        Supplier<RamStation> made = RamStation::new;
        refused("setValve", made, x -> x.setValve(0, 0, 60), NO_SUCH_PUMP);
        refused("setChamber", made, x -> x.setChamber(0, 400, true), NO_SUCH_PUMP);
        refused("start", made, x -> x.start(0), NO_SUCH_PUMP);
        refused("stop", made, x -> x.stop(0), NO_SUCH_PUMP);
        refused("emptyTank", made, x -> x.emptyTank(0), NO_SUCH_PUMP);
        refused("undo", made, x -> x.undo(), NONE);
        refused("syntaxError", made, x -> x.syntaxError(), 0);
        refused("execute", made, x -> x.execute(), -2000);
        refused("failure", made, x -> x.failure(), NONE);
        refused("incidentKind", made, x -> x.incidentKind(0), NONE);
        refused("speed", made, x -> x.speed(0), NO_SUCH_PUMP);
        refused("bestPump", made, x -> x.bestPump(), NONE);
        refused("ticksToSlam", made, x -> x.ticksToSlam(0), NO_SUCH_PUMP);
    }

    private static void addPump() {
        DUE.sentence("addPump: BAD_VALUE if an argument is out of range");
        int[] good = {20, 50, 5, 10, 60};
        int[][] wrong = {{9, 100, 0, -1, LEAST, MOST}, {9, 401, 0, -1, LEAST, MOST}, {0, 21, -1, LEAST, MOST},
            {-1, 101, LEAST, MOST}, {20, 501, 0, -1, LEAST, MOST}};
        for (int i = 0; i < wrong.length; i++) {
            for (int value : wrong[i]) {
                int[] a = good.clone();
                a[i] = value;
                busyRefuses("addPump with " + value + " at " + i, x -> x.addPump(a[0], a[1], a[2], a[3], a[4]),
                        BAD_VALUE);
            }
        }
        busyRefuses("addPump with all wrong", x -> x.addPump(MOST, MOST, MOST, MOST, MOST), BAD_VALUE);
        busyRefuses("addPump, a head of 100", x -> x.addPump(100, 50, 5, 10, 101), BAD_VALUE);
    }

    private static void fullOfPumps() {
        DUE.sentence("addPump: BAD_VALUE if an argument is out of range; FULL if there are 4 pumps");
        refused("addPump", RefusalsTest::full, x -> x.addPump(20, 50, 5, 10, 60), FULL);
        refused("a bad head", RefusalsTest::full, x -> x.addPump(9, 50, 5, 10, 60), BAD_VALUE);
        refused("a bad length", RefusalsTest::full, x -> x.addPump(20, 401, 5, 10, 60), BAD_VALUE);
        refused("a bad area", RefusalsTest::full, x -> x.addPump(20, 50, 0, 10, 60), BAD_VALUE);
        refused("a bad friction", RefusalsTest::full, x -> x.addPump(20, 50, 5, 101, 60), BAD_VALUE);
        refused("a bad lift", RefusalsTest::full, x -> x.addPump(20, 50, 5, 10, 20), BAD_VALUE);
    }

    private static void setValve() {
        DUE.sentence("setValve: NO_SUCH_PUMP; BAD_VALUE; NOT_POSSIBLE if the pump runs");
        for (int pump : new int[] {-1, 3, 4, LEAST, MOST}) {
            busyRefuses("setValve of " + pump, x -> x.setValve(pump, 0, 60), NO_SUCH_PUMP);
            busyRefuses("setValve of " + pump + ", a bad kind", x -> x.setValve(pump, 3, 60), NO_SUCH_PUMP);
            busyRefuses("setValve of " + pump + ", a bad setting", x -> x.setValve(pump, 0, 0), NO_SUCH_PUMP);
        }
        for (int pump = 0; pump <= 1; pump++) {
            int number = pump;
            for (int kind : new int[] {-1, 3, LEAST, MOST}) {
                busyRefuses("setValve " + pump + ", kind " + kind, x -> x.setValve(number, kind, 60), BAD_VALUE);
            }
            for (int setting : new int[] {0, 501, -1, LEAST, MOST}) {
                busyRefuses("setValve " + pump + ", setting " + setting, x -> x.setValve(number, 0, setting),
                        BAD_VALUE);
            }
            busyRefuses("setValve " + pump + ", both bad", x -> x.setValve(number, 3, 501), BAD_VALUE);
        }
        busyRefuses("setValve of a pump that runs", x -> x.setValve(0, 0, 60), NOT_POSSIBLE);
        busyRefuses("setValve of a pump that runs, to what it is", x -> x.setValve(0, 2, 1), NOT_POSSIBLE);
    }

    private static void setChamber() {
        DUE.sentence("setChamber: NO_SUCH_PUMP; BAD_VALUE; NOT_POSSIBLE if the pump runs");
        for (int pump : new int[] {-1, 3, 4, LEAST, MOST}) {
            busyRefuses("setChamber of " + pump, x -> x.setChamber(pump, 400, true), NO_SUCH_PUMP);
            busyRefuses("setChamber of " + pump + ", a bad volume", x -> x.setChamber(pump, 49, true), NO_SUCH_PUMP);
        }
        for (int pump = 0; pump <= 1; pump++) {
            int number = pump;
            for (int volume : new int[] {49, 2001, 0, -1, LEAST, MOST}) {
                busyRefuses("setChamber " + pump + ", volume " + volume, x -> x.setChamber(number, volume, false),
                        BAD_VALUE);
            }
        }
        busyRefuses("setChamber of a pump that runs", x -> x.setChamber(0, 400, true), NOT_POSSIBLE);
    }

    private static void setInflow() {
        DUE.sentence("setInflow: BAD_VALUE if liters is out of range");
        for (int liters : new int[] {-1, 501, LEAST, MOST}) {
            busyRefuses("setInflow " + liters, x -> x.setInflow(liters), BAD_VALUE);
        }
    }

    private static void startStopEmptyTank() {
        DUE.sentence("start, stop, emptyTank: NO_SUCH_PUMP; NOT_POSSIBLE");
        for (int pump : new int[] {-1, 3, 4, LEAST, MOST}) {
            busyRefuses("start of " + pump, x -> x.start(pump), NO_SUCH_PUMP);
            busyRefuses("stop of " + pump, x -> x.stop(pump), NO_SUCH_PUMP);
            busyRefuses("emptyTank of " + pump, x -> x.emptyTank(pump), NO_SUCH_PUMP);
        }
        busyRefuses("start of a pump that runs", x -> x.start(0), NOT_POSSIBLE);
        busyRefuses("stop of a pump that stands", x -> x.stop(1), NOT_POSSIBLE);
        busyRefuses("stop of a new pump", x -> x.stop(2), NOT_POSSIBLE);
        busyRefuses("emptyTank of an empty tank", x -> x.emptyTank(2), NOT_POSSIBLE);
        refused("a fifth pump", RefusalsTest::full, x -> x.start(4), NO_SUCH_PUMP);
        refused("a fifth pump", RefusalsTest::full, x -> x.emptyTank(4), NO_SUCH_PUMP);
    }

    private static void pass() {
        DUE.sentence("pass: BAD_VALUE if ticks is out of range");
        for (int ticks : new int[] {0, 201, -1, LEAST, MOST}) {
            busyRefuses("pass " + ticks, x -> x.pass(ticks), BAD_VALUE);
            refused("late pass " + ticks, RefusalsTest::late, x -> x.pass(ticks), BAD_VALUE);
        }
    }

    private static void passBeyondTheEnd() {
        DUE.sentence("pass: NOT_POSSIBLE if the time would be greater than 20000");
        refused("pass 11", RefusalsTest::late, x -> x.pass(11), NOT_POSSIBLE);
        refused("pass 200", RefusalsTest::late, x -> x.pass(200), NOT_POSSIBLE);
        RamStation x = late();
        x.pass(10);
        DUE.due("10 ticks are possible", x.time(), 20000);
        DUE.due("pass 1", x.pass(1), NOT_POSSIBLE);
        DUE.due("basin", x.basin() <= 20000);
        x.undo();
        DUE.due("time", x.time(), 19990);
    }

    private static void undo() {
        DUE.sentence("undo: NONE if no state is recorded");
        Supplier<RamStation> made = () -> {
            RamStation x = busy();
            for (int i = 0; i < 8; i++) {
                x.undo();
            }
            return x;
        };
        refused("undo", made, x -> x.undo(), NONE);
    }

    private static void type() {
        DUE.sentence("type: BAD_VALUE if code is out of range; FULL if the text has 40 characters");
        for (int code : new int[] {32, 127, 0, -1, 119 + 256, 119 + 65536, LEAST, MOST}) {
            busyRefuses("type " + code, x -> x.type(code), BAD_VALUE);
            refused("type " + code + " with 40", RefusalsTest::full, x -> x.type(code), BAD_VALUE);
        }
        refused("type with 40", RefusalsTest::full, x -> x.type('9'), FULL);
        refused("type 33 with 40", RefusalsTest::full, x -> x.type(33), FULL);
        refused("type 126 with 40", RefusalsTest::full, x -> x.type(126), FULL);
    }

    private static RamStation busyWith(String text) {
        RamStation x = busy();
        write(x, text);
        return x;
    }

    private static void execute() {
        DUE.sentence("execute: -2000 minus the index of the syntax error");
        String[] texts = {"", "w", "w5;", "w5;i7;r", "i9;w1234", "x", "r1;s1=5;h1;w5x"};
        int[] errors = {0, 1, 3, 7, 7, 0, 13};
        for (int i = 0; i < texts.length; i++) {
            String text = texts[i];
            int error = errors[i];
            Supplier<RamStation> made = () -> busyWith(text);
            refused("execute of \"" + text + "\"", made, x -> x.execute(), -2000 - error);
            refused("syntaxError of \"" + text + "\"", made, x -> x.syntaxError(), error);
        }
    }

    // The state before the text is recorded; but for that a command that fails changes nothing to be undone.
    private static void commandsThatFail() {
        DUE.sentence("a command fails if the method with the same effect would return an error");
        String[] commands = {"r0", "r9", "h1", "h9", "e2", "e9", "s0=5", "s1=0", "s1=501", "s9=5", "i501", "w0",
            "w201"};
        for (String command : commands) {
            RamStation x = busyWith(command);
            DUE.due("execute of " + command, x.execute(), 0);
            DUE.due("failure of " + command, x.failure() < 0);
            DUE.due("undo", x.undo(), 7);
            write(x, "");
            int[] got = Readings.withActs(x);
            RamStation y = busyWith(command);
            y.execute();
            write(y, "");
            int[] want = Readings.withActs(y);
            for (int i = 0; i < want.length; i++) {
                DUE.due(command + " changes nothing: reading " + i, got[i], want[i]);
            }
        }
    }

    private static void incidents() {
        DUE.sentence("incidentKind, incidentPump, incidentTime: BAD_VALUE if back is negative; NONE");
        for (int back : new int[] {-1, LEAST}) {
            busyRefuses("incidentKind " + back, x -> x.incidentKind(back), BAD_VALUE);
            busyRefuses("incidentPump " + back, x -> x.incidentPump(back), BAD_VALUE);
            busyRefuses("incidentTime " + back, x -> x.incidentTime(back), BAD_VALUE);
            DUE.due("without incidents", new RamStation().incidentKind(back), BAD_VALUE);
            DUE.due("without incidents", new RamStation().incidentPump(back), BAD_VALUE);
            DUE.due("without incidents", new RamStation().incidentTime(back), BAD_VALUE);
        }
        for (int back : new int[] {20, MOST}) {
            busyRefuses("incidentKind " + back, x -> x.incidentKind(back), NONE);
            busyRefuses("incidentPump " + back, x -> x.incidentPump(back), NONE);
            busyRefuses("incidentTime " + back, x -> x.incidentTime(back), NONE);
        }
    }

    private static void noSuchPump() {
        DUE.sentence("a reading of a pump: NO_SUCH_PUMP");
        for (int pump : new int[] {-1, 3, 4, LEAST, MOST}) {
            busyRefuses("phase", x -> x.phase(pump), NO_SUCH_PUMP);
            busyRefuses("speed", x -> x.speed(pump), NO_SUCH_PUMP);
            busyRefuses("openTicks", x -> x.openTicks(pump), NO_SUCH_PUMP);
            busyRefuses("chamberWater", x -> x.chamberWater(pump), NO_SUCH_PUMP);
            busyRefuses("air", x -> x.air(pump), NO_SUCH_PUMP);
            busyRefuses("chamberHead", x -> x.chamberHead(pump), NO_SUCH_PUMP);
            busyRefuses("beats", x -> x.beats(pump), NO_SUCH_PUMP);
            busyRefuses("wasted", x -> x.wasted(pump), NO_SUCH_PUMP);
            busyRefuses("relieved", x -> x.relieved(pump), NO_SUCH_PUMP);
            busyRefuses("lifted", x -> x.lifted(pump), NO_SUCH_PUMP);
            busyRefuses("overflowed", x -> x.overflowed(pump), NO_SUCH_PUMP);
            busyRefuses("starved", x -> x.starved(pump), NO_SUCH_PUMP);
            busyRefuses("tank", x -> x.tank(pump), NO_SUCH_PUMP);
        }
        RamStation x = full();
        int[] answers = {x.phase(4), x.speed(4), x.openTicks(4), x.chamberWater(4), x.air(4), x.chamberHead(4),
            x.beats(4), x.wasted(4), x.relieved(4), x.lifted(4), x.overflowed(4), x.starved(4), x.tank(4),
            x.interval(4, 0), x.trace(4, 0), x.efficiency(4)};
        for (int answer : answers) {
            DUE.due("pump 4 of 4", answer, NO_SUCH_PUMP);
        }
    }

    private static void intervalAndTrace() {
        DUE.sentence("interval, trace: NO_SUCH_PUMP; BAD_VALUE if back is negative; NONE");
        for (int pump : new int[] {-1, 3, LEAST, MOST}) {
            for (int back : new int[] {-1, 0, MOST}) {
                busyRefuses("interval", x -> x.interval(pump, back), NO_SUCH_PUMP);
                busyRefuses("trace", x -> x.trace(pump, back), NO_SUCH_PUMP);
            }
        }
        for (int pump : new int[] {0, 1, 2}) {
            for (int back : new int[] {-1, LEAST}) {
                busyRefuses("interval " + pump + ", " + back, x -> x.interval(pump, back), BAD_VALUE);
                busyRefuses("trace " + pump + ", " + back, x -> x.trace(pump, back), BAD_VALUE);
            }
            busyRefuses("interval " + pump, x -> x.interval(pump, 16), NONE);
            busyRefuses("interval " + pump, x -> x.interval(pump, MOST), NONE);
            busyRefuses("trace " + pump, x -> x.trace(pump, 32), NONE);
            busyRefuses("trace " + pump, x -> x.trace(pump, MOST), NONE);
        }
        busyRefuses("interval of a new pump", x -> x.interval(2, 0), NONE);
        busyRefuses("trace of a new pump", x -> x.trace(2, 0), NONE);
    }

    private static void efficiency() {
        DUE.sentence("efficiency: NO_SUCH_PUMP; NONE if wasted, relieved and lifted are all 0");
        for (int pump : new int[] {-1, 3, 4, LEAST, MOST}) {
            busyRefuses("efficiency of " + pump, x -> x.efficiency(pump), NO_SUCH_PUMP);
        }
        busyRefuses("efficiency of a new pump", x -> x.efficiency(2), NONE);
    }

    private static void trials() {
        DUE.sentence("trials: NO_SUCH_PUMP; BAD_VALUE if ticks is out of range");
        for (int pump : new int[] {-1, 3, 4, LEAST, MOST}) {
            busyRefuses("ticksToSlam", x -> x.ticksToSlam(pump), NO_SUCH_PUMP);
            busyRefuses("period", x -> x.period(pump), NO_SUCH_PUMP);
            for (int ticks : new int[] {0, 10, 501}) {
                busyRefuses("deliveredIn", x -> x.deliveredIn(pump, ticks), NO_SUCH_PUMP);
                busyRefuses("drawnIn", x -> x.drawnIn(pump, ticks), NO_SUCH_PUMP);
                busyRefuses("bestLength", x -> x.bestLength(pump, ticks), NO_SUCH_PUMP);
                busyRefuses("bestSetting", x -> x.bestSetting(pump, ticks), NO_SUCH_PUMP);
            }
        }
        for (int ticks : new int[] {0, -1, 501, LEAST, MOST}) {
            busyRefuses("deliveredIn " + ticks, x -> x.deliveredIn(0, ticks), BAD_VALUE);
            busyRefuses("drawnIn " + ticks, x -> x.drawnIn(0, ticks), BAD_VALUE);
            busyRefuses("bestLength " + ticks, x -> x.bestLength(0, ticks), BAD_VALUE);
            busyRefuses("bestSetting " + ticks, x -> x.bestSetting(0, ticks), BAD_VALUE);
        }
        busyRefuses("bestLength 301", x -> x.bestLength(0, 301), BAD_VALUE);
        busyRefuses("bestSetting 301", x -> x.bestSetting(0, 301), BAD_VALUE);
    }

    // At a speed of 45 a friction of 100 takes the 2 that the head gives, so the valve never slams.
    private static void trialsWithoutAnswer() {
        DUE.sentence("ticksToSlam, period: NONE");
        Supplier<RamStation> made = () -> {
            RamStation x = new RamStation();
            x.addPump(10, 400, 1, 100, 11);
            x.start(0);
            x.pass(100);
            return x;
        };
        refused("ticksToSlam", made, x -> x.ticksToSlam(0), NONE);
        refused("period", made, x -> x.period(0), NONE);
        refused("period that is found", RefusalsTest::full, x -> x.period(0) > 0 ? 1 : 0, 1);
        refused("bestLength that is found", RefusalsTest::full, x -> x.bestLength(0, 300) > 0 ? 1 : 0, 1);
        refused("bestSetting that is found", RefusalsTest::full, x -> x.bestSetting(0, 300) > 0 ? 1 : 0, 1);
    }
}
