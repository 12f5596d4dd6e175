/** Promises 1 to 10: a new object, the settings, passing time and undo. */
public final class SettingsTest {
    private static final Due DUE = new Due("SettingsTest");
    private static final int NO_SUCH_PUMP = RamStation.NO_SUCH_PUMP;
    private static final int BAD_VALUE = RamStation.BAD_VALUE;
    private static final int NOT_POSSIBLE = RamStation.NOT_POSSIBLE;

    public static void main(String[] args) {
        newObject();
        addPumpRanges();
        addPumpFills();
        newPump();
        setValve();
        slamRules();
        setChamber();
        chamberWaterSpills();
        setInflow();
        startAndStop();
        emptyTank();
        pass();
        passToTheEnd();
        undo();
        undoOfEveryValue();
        everyActIsRecorded();
        undoKeepsEight();
        undoLeavesRecords();
        DUE.end();
    }

    private static RamStation withPump() {
        RamStation x = new RamStation();
        DUE.due("addPump", x.addPump(20, 50, 5, 0, 30), 0);
        return x;
    }

    // Promise 1
    private static void newObject() {
        RamStation x = new RamStation();
        DUE.due("new: time", x.time(), 0);
        DUE.due("new: basin", x.basin(), 5000);
        DUE.due("new: spilled", x.spilled(), 0);
        DUE.due("new: pumps", x.pumps(), 0);
        DUE.due("new: incidents", x.incidents(), 0);
        DUE.due("new: failure", x.failure(), RamStation.NONE);
        DUE.due("new: clearText", x.clearText(), 0);
        DUE.due("new: undo", x.undo(), RamStation.NONE);
        DUE.due("new: inflow", x.setInflow(7), 100);
    }

    // Promise 2
    private static void addPumpRanges() {
        int[] good = {20, 50, 5, 10, 60};
        int[] least = {10, 10, 1, 0, 21};
        int[] most = {59, 400, 20, 100, 500};
        for (int i = 0; i < 5; i++) {
            DUE.due("least " + i, add(good, i, least[i]), 0);
            DUE.due("below " + i, add(good, i, least[i] - 1), BAD_VALUE);
            DUE.due("most " + i, add(good, i, most[i]), 0);
            DUE.due("above " + i, add(good, i, most[i] + 1), BAD_VALUE);
            DUE.due("smallest int " + i, add(good, i, Integer.MIN_VALUE), BAD_VALUE);
            DUE.due("largest int " + i, add(good, i, Integer.MAX_VALUE), BAD_VALUE);
        }
        RamStation x = new RamStation();
        DUE.due("highest head", x.addPump(99, 50, 5, 10, 100), 0);
        DUE.due("head too high", x.addPump(100, 50, 5, 10, 101), BAD_VALUE);
        DUE.due("refused ones are not counted", x.pumps(), 1);
    }

    private static int add(int[] good, int index, int value) {
        int[] a = good.clone();
        a[index] = value;
        return new RamStation().addPump(a[0], a[1], a[2], a[3], a[4]);
    }

    private static void addPumpFills() {
        RamStation x = new RamStation();
        for (int i = 0; i < 4; i++) {
            DUE.due("pump " + i, x.addPump(20, 50, 5, 10, 60), i);
        }
        DUE.due("fifth pump", x.addPump(20, 50, 5, 10, 60), RamStation.FULL);
        DUE.due("fifth pump, bad", x.addPump(20, 50, 5, 10, 20), BAD_VALUE);
        DUE.due("pumps", x.pumps(), 4);
        DUE.due("undo of the fourth", x.undo(), 3);
        DUE.due("pumps then", x.pumps(), 3);
        DUE.due("its number is free", x.speed(3), NO_SUCH_PUMP);
        DUE.due("fourth again", x.addPump(20, 50, 5, 10, 60), 3);
    }

    // A pump added at a number that was used and undone begins anew.
    private static void newPump() {
        RamStation x = withPump();
        x.start(0);
        x.pass(50);
        for (int i = 0; i < 3; i++) {
            x.undo();
        }
        DUE.due("no pump again", x.pumps(), 0);
        x.addPump(10, 400, 1, 0, 11);
        int[] values = {x.phase(0), x.speed(0), x.openTicks(0), x.chamberWater(0), x.beats(0), x.wasted(0),
            x.relieved(0), x.lifted(0), x.overflowed(0), x.starved(0), x.tank(0), x.chamberHead(0)};
        for (int i = 0; i < values.length; i++) {
            DUE.due("new pump, value " + i, values[i], 0);
        }
        DUE.due("new pump, air", x.air(0), 400);
        DUE.due("new pump, interval", x.interval(0, 0), RamStation.NONE);
        DUE.due("new pump, trace", x.trace(0, 0), RamStation.NONE);
        DUE.due("kind 0 slams at speed 60, 2 more a tick", x.ticksToSlam(0), 30);
        DUE.due("new pump, setting", x.setValve(0, 0, 61), 60);
        DUE.due("speed 61 is passed a tick later", x.ticksToSlam(0), 31);
    }

    // Promise 3
    private static void setValve() {
        RamStation x = withPump();
        DUE.due("kind 2, most", x.setValve(0, 2, 500), 60);
        DUE.due("kind 0, least", x.setValve(0, 0, 1), 500);
        DUE.due("kind 1", x.setValve(0, 1, 77), 1);
        DUE.due("kind too low", x.setValve(0, -1, 50), BAD_VALUE);
        DUE.due("kind too high", x.setValve(0, 3, 50), BAD_VALUE);
        DUE.due("setting too low", x.setValve(0, 0, 0), BAD_VALUE);
        DUE.due("setting too high", x.setValve(0, 0, 501), BAD_VALUE);
        DUE.due("no pump", x.setValve(1, 0, 50), NO_SUCH_PUMP);
        DUE.due("no pump, first of the errors", x.setValve(-1, 3, 0), NO_SUCH_PUMP);
        x.start(0);
        DUE.due("it runs", x.setValve(0, 0, 50), NOT_POSSIBLE);
        DUE.due("it runs, bad setting first", x.setValve(0, 0, 501), BAD_VALUE);
        x.stop(0);
        DUE.due("the refused changed nothing", x.setValve(0, 0, 60), 77);
        x.undo();
        DUE.due("an act that undo takes back", x.setValve(0, 0, 60), 77);
    }

    // The speed is 40 more in each tick.
    private static void slamRules() {
        int[][] kindSettingTick = {{0, 40, 1}, {0, 41, 2}, {0, 80, 2}, {0, 81, 3}, {0, 500, 13}, {1, 16, 1},
            {1, 17, 2}, {1, 64, 2}, {1, 65, 3}, {1, 144, 3}, {1, 145, 4}, {1, 500, 6},
            {2, 1, 1}, {2, 3, 3}, {2, 500, 500}};
        for (int[] rule : kindSettingTick) {
            RamStation x = withPump();
            x.setValve(0, rule[0], rule[1]);
            DUE.due("trial of kind " + rule[0] + ", setting " + rule[1], x.ticksToSlam(0), rule[2]);
            if (rule[2] <= 200) {
                x.start(0);
                x.pass(rule[2]);
                DUE.due("kind " + rule[0] + ", setting " + rule[1] + " has slammed", x.beats(0), 1);
                DUE.due("in the last tick", x.interval(0, 0), rule[2] - 1);
            }
        }
    }

    // Promise 4
    private static void setChamber() {
        RamStation x = withPump();
        x.start(0);
        x.pass(4);
        DUE.due("it runs", x.setChamber(0, 50, false), NOT_POSSIBLE);
        DUE.due("it runs, bad volume first", x.setChamber(0, 49, false), BAD_VALUE);
        x.stop(0);
        DUE.due("volume too low", x.setChamber(0, 49, false), BAD_VALUE);
        DUE.due("volume too high", x.setChamber(0, 2001, false), BAD_VALUE);
        DUE.due("no pump", x.setChamber(1, 49, false), NO_SUCH_PUMP);
        DUE.due("basin before", x.basin(), 5301);
        DUE.due("water of the old chamber", x.setChamber(0, 2000, true), 79);
        DUE.due("water is in the basin", x.basin(), 5380);
        DUE.due("new chamber has no water", x.chamberWater(0), 0);
        DUE.due("new chamber has its volume of air", x.air(0), 2000);
        DUE.due("nothing spilled", x.spilled(), 0);
        x.undo();
        DUE.due("undo: water", x.chamberWater(0), 79);
        DUE.due("undo: air", x.air(0), 399);
        DUE.due("undo: basin", x.basin(), 5301);
        DUE.due("least volume", x.setChamber(0, 50, false), 79);
        DUE.due("air of the least", x.air(0), 50);
        DUE.due("an empty one", x.setChamber(0, 51, true), 0);
    }

    private static void chamberWaterSpills() {
        RamStation x = withPump();
        x.setInflow(500);
        x.start(0);
        x.pass(4);
        x.stop(0);
        x.pass(26);
        DUE.due("basin", x.basin(), 19901);
        x.setInflow(49);
        x.pass(1);
        DUE.due("chamber water", x.setChamber(0, 100, false), 79);
        DUE.due("basin is full", x.basin(), 20000);
        DUE.due("what it cannot hold is spilled", x.spilled(), 29);
        x.undo();
        DUE.due("undo: spilled", x.spilled(), 0);
        DUE.due("undo: basin", x.basin(), 19950);
    }

    // Promise 5
    private static void setInflow() {
        RamStation x = new RamStation();
        DUE.due("too low", x.setInflow(-1), BAD_VALUE);
        DUE.due("too high", x.setInflow(501), BAD_VALUE);
        DUE.due("errors are not recorded", x.undo(), RamStation.NONE);
        DUE.due("most", x.setInflow(500), 100);
        x.pass(3);
        DUE.due("basin", x.basin(), 6500);
        DUE.due("least", x.setInflow(0), 500);
        x.pass(3);
        DUE.due("basin stays", x.basin(), 6500);
        DUE.due("undo", x.undo(), 3);
        DUE.due("undo", x.undo(), 2);
        DUE.due("inflow is 500 again", x.setInflow(1), 500);
    }

    // Promises 6 and 7
    private static void startAndStop() {
        RamStation x = withPump();
        x.addPump(20, 50, 5, 0, 30);
        DUE.due("start of none", x.start(2), NO_SUCH_PUMP);
        DUE.due("stop of none", x.stop(-1), NO_SUCH_PUMP);
        DUE.due("stop at rest", x.stop(0), NOT_POSSIBLE);
        DUE.due("start 1", x.start(1), 1);
        DUE.due("start 0", x.start(0), 2);
        DUE.due("start again", x.start(0), NOT_POSSIBLE);
        DUE.due("open", x.phase(0), 1);
        x.pass(3);
        DUE.due("closed", x.phase(0), 2);
        DUE.due("open ticks stay", x.openTicks(0), 2);
        DUE.due("stop", x.stop(0), 1);
        DUE.due("speed", x.speed(0), 0);
        DUE.due("open ticks", x.openTicks(0), 0);
        DUE.due("phase", x.phase(0), 0);
        DUE.due("the water stays", x.chamberWater(0), 40);
        x.pass(1);
        DUE.due("no tick while it stands", x.trace(0, 2), 40);
        DUE.due("started anew it is open", x.start(0), 2);
        DUE.due("phase", x.phase(0), 1);
        x.pass(2);
        DUE.due("interval from the start", x.interval(0, 0), 1);
        DUE.due("the one before it", x.interval(0, 1), 1);
        DUE.due("beats", x.beats(0), 2);
        x.undo();
        x.undo();
        DUE.due("undo of the start", x.phase(0), 0);
        DUE.due("the other runs on", x.phase(1), 2);
    }

    // Promise 8
    private static void emptyTank() {
        RamStation x = withPump();
        DUE.due("no pump", x.emptyTank(1), NO_SUCH_PUMP);
        DUE.due("empty", x.emptyTank(0), NOT_POSSIBLE);
        DUE.due("no record of errors", x.undo(), 0);
        x = withPump();
        x.start(0);
        DUE.due("delivered", x.pass(24), 134);
        DUE.due("emptied", x.emptyTank(0), 134);
        DUE.due("tank", x.tank(0), 0);
        DUE.due("lifted stays", x.lifted(0), 134);
        DUE.due("again", x.emptyTank(0), NOT_POSSIBLE);
        x.undo();
        DUE.due("undo", x.tank(0), 134);
    }

    // Promise 9
    private static void pass() {
        RamStation x = new RamStation();
        DUE.due("none", x.pass(0), BAD_VALUE);
        DUE.due("too many", x.pass(201), BAD_VALUE);
        DUE.due("negative", x.pass(Integer.MIN_VALUE), BAD_VALUE);
        DUE.due("largest", x.pass(Integer.MAX_VALUE), BAD_VALUE);
        DUE.due("time stays", x.time(), 0);
        DUE.due("most", x.pass(200), 0);
        DUE.due("basin is full", x.basin(), 20000);
        DUE.due("the rest", x.spilled(), 5000);
        DUE.due("time", x.time(), 200);
        x = withPump();
        x.addPump(20, 50, 5, 0, 30);
        x.setInflow(500);
        x.start(0);
        x.start(1);
        DUE.due("both deliver", x.pass(24), 268);
        DUE.due("first", x.lifted(0), 134);
        DUE.due("second", x.lifted(1), 134);
    }

    private static void passToTheEnd() {
        RamStation x = new RamStation();
        for (int i = 0; i < 99; i++) {
            x.pass(200);
        }
        DUE.due("199", x.pass(199), 0);
        DUE.due("time", x.time(), 19999);
        DUE.due("two more", x.pass(2), NOT_POSSIBLE);
        DUE.due("a bad number is told first", x.pass(201), BAD_VALUE);
        DUE.due("one more", x.pass(1), 0);
        DUE.due("time", x.time(), 20000);
        DUE.due("no more", x.pass(1), NOT_POSSIBLE);
        x.undo();
        DUE.due("undo brings time back", x.pass(1), 0);
    }

    // Promise 10
    private static void undo() {
        RamStation x = withPump();
        x.start(0);
        x.pass(60);
        int[] before = {x.speed(0), x.chamberWater(0), x.air(0), x.beats(0), x.wasted(0), x.interval(0, 3),
            x.trace(0, 9), x.basin(), x.time(), x.tank(0), x.openTicks(0), x.phase(0)};
        x.pass(77);
        DUE.due("undo", x.undo(), 3);
        int[] after = {x.speed(0), x.chamberWater(0), x.air(0), x.beats(0), x.wasted(0), x.interval(0, 3),
            x.trace(0, 9), x.basin(), x.time(), x.tank(0), x.openTicks(0), x.phase(0)};
        for (int i = 0; i < before.length; i++) {
            DUE.due("undo restores " + i, after[i], before[i]);
        }
        int first = x.pass(150);
        x.undo();
        DUE.due("the same again", x.pass(150), first);
    }

    private static int[] everyValue(RamStation x) {
        return new int[] {x.time(), x.basin(), x.spilled(), x.pumps(), x.phase(0), x.speed(0), x.openTicks(0),
            x.chamberWater(0), x.air(0), x.beats(0), x.wasted(0), x.relieved(0), x.lifted(0), x.overflowed(0),
            x.starved(0), x.tank(0), x.interval(0, 0), x.interval(0, 1), x.interval(0, 2), x.trace(0, 0),
            x.trace(0, 1), x.efficiency(0)};
    }

    // A pump that starves, relieves and overflows.
    private static void undoOfEveryValue() {
        RamStation x = new RamStation();
        x.addPump(99, 10, 11, 0, 100);
        x.setChamber(0, 60, true);
        x.setInflow(500);
        x.pass(40);
        x.start(0);
        int[] before = everyValue(x);
        boolean[] changed = new boolean[before.length];
        for (int i = 0; i < 7; i++) {
            x.pass(200);
            int[] now = everyValue(x);
            for (int v = 0; v < before.length; v++) {
                changed[v] |= now[v] != before[v];
            }
        }
        for (int i = 0; i < 7; i++) {
            x.undo();
        }
        int[] after = everyValue(x);
        for (int v = 0; v < before.length; v++) {
            DUE.due("value " + v + " after seven undos", after[v], before[v]);
        }
        DUE.due("relieved has changed", changed[11] ? 1 : 0, 1);
        DUE.due("overflowed has changed", changed[13] ? 1 : 0, 1);
        DUE.due("starved has changed", changed[14] ? 1 : 0, 1);
        x.pass(1);
        DUE.due("the time of the start is restored", x.interval(0, 0), 0);
    }

    private static void everyActIsRecorded() {
        RamStation x = new RamStation();
        x.addPump(20, 50, 5, 0, 30);
        DUE.due("addPump", x.undo(), 0);
        x.addPump(20, 50, 5, 0, 30);
        x.setValve(0, 0, 60);
        DUE.due("setValve", x.undo(), 1);
        x.setChamber(0, 400, false);
        DUE.due("setChamber", x.undo(), 1);
        x.setInflow(100);
        DUE.due("setInflow", x.undo(), 1);
        x.start(0);
        x.stop(0);
        DUE.due("stop", x.undo(), 2);
        DUE.due("it runs", x.phase(0), 1);
        x.pass(24);
        x.emptyTank(0);
        DUE.due("emptyTank", x.undo(), 3);
        DUE.due("pass", x.undo(), 2);
        DUE.due("start", x.undo(), 1);
        x.type('w');
        x.type('1');
        x.syntaxError();
        DUE.due("execute", x.execute(), 1);
        DUE.due("execute", x.undo(), 1);
        DUE.due("errors are none", x.stop(0) + x.pass(0), NOT_POSSIBLE + BAD_VALUE);
        DUE.due("addPump", x.undo(), 0);
        DUE.due("no more", x.undo(), RamStation.NONE);
    }

    private static void undoKeepsEight() {
        RamStation x = new RamStation();
        for (int i = 1; i <= 11; i++) {
            x.setInflow(i);
        }
        for (int left = 7; left >= 0; left--) {
            DUE.due("states left", x.undo(), left);
        }
        DUE.due("no more", x.undo(), RamStation.NONE);
        DUE.due("eight back from 11", x.setInflow(50), 3);
        DUE.due("one", x.undo(), 0);
        DUE.due("it was 3", x.setInflow(51), 3);
        x.setInflow(52);
        DUE.due("two acts, one undone", x.undo(), 1);
        DUE.due("it was 51", x.setInflow(53), 51);
    }

    // The text, the incidents and the result of failure() are not part of the state.
    private static void undoLeavesRecords() {
        RamStation x = new RamStation();
        x.addPump(99, 10, 20, 0, 500);
        x.setChamber(0, 50, false);
        x.start(0);
        x.pass(2);
        x.type('r');
        x.type('0');
        DUE.due("fails", x.execute(), 0);
        x.undo();
        x.undo();
        DUE.due("time is restored", x.time(), 0);
        DUE.due("incidents stay", x.incidents(), 1);
        DUE.due("incident's kind", x.incidentKind(0), 2);
        DUE.due("failure stays", x.failure(), NOT_POSSIBLE);
        DUE.due("text stays", x.clearText(), 2);
    }
}
