/** The bounds of 'Terms': undo, and of promise 10. One method for each sentence. */
public final class UndoBoundsTest {
    private static final Due DUE = new Due("UndoBoundsTest");
    private static final int NONE = RamStation.NONE;

    public static void main(String[] args) {
        noState();
        oneState();
        sevenStates();
        eightStates();
        nineStates();
        manyStates();
        fullAgainAfterUndo();
        oldestIsDropped();
        errorsRecordNothing();
        readingsRecordNothing();
        undoRecordsNothing();
        theLatestFirst();
        addPumpIsAnAct();
        setValveIsAnAct();
        setChamberIsAnAct();
        setInflowIsAnAct();
        startIsAnAct();
        stopIsAnAct();
        emptyTankIsAnAct();
        passIsAnAct();
        executeIsAnAct();
        countersRestored();
        spilledRestored();
        fourPumpsRestored();
        pumpAddedAnew();
        runningRestored();
        settingsRestored();
        ringsRestored();
        timeOfTheStartRestored();
        timeOfTheSlamRestored();
        textStays();
        failureStays();
        DUE.end();
    }

    private static void noState() {
        DUE.sentence("NONE if no state is recorded");
        RamStation x = new RamStation();
        DUE.due("undo", x.undo(), NONE);
        DUE.due("undo", x.undo(), NONE);
        x.setInflow(1);
        DUE.due("undo", x.undo(), 0);
        DUE.due("undo", x.undo(), NONE);
        DUE.due("basin", x.basin(), 5000);
    }

    /** The inflow is 1, 2, 3 and so on after the acts. */
    private static RamStation acts(int count) {
        RamStation x = new RamStation();
        x.setInflow(0);
        x.undo();
        for (int i = 1; i <= count; i++) {
            x.setInflow(i);
        }
        return x;
    }

    private static void inflow(RamStation x, int want) {
        DUE.due("inflow", x.setInflow(500), want);
        x.undo();
    }

    private static void oneState() {
        DUE.sentence("restores the latest recorded state and drops it: the only one");
        RamStation x = acts(1);
        DUE.due("undo", x.undo(), 0);
        DUE.due("undo", x.undo(), NONE);
        DUE.due("inflow", x.setInflow(500), 100);
    }

    private static void undoneOneByOne(RamStation x, int latest, int states) {
        for (int left = states - 1; left >= 0; left--) {
            DUE.due("undo", x.undo(), left);
            latest--;
            inflow(x, latest == 0 ? 100 : latest);
        }
        DUE.due("undo", x.undo(), NONE);
    }

    private static void sevenStates() {
        DUE.sentence("at most 8 states are recorded: 7");
        undoneOneByOne(acts(7), 7, 7);
    }

    private static void eightStates() {
        DUE.sentence("at most 8 states are recorded: 8");
        undoneOneByOne(acts(8), 8, 8);
    }

    private static void nineStates() {
        DUE.sentence("when one more is recorded, the oldest one is dropped: of 9");
        undoneOneByOne(acts(9), 9, 8);
    }

    private static void manyStates() {
        DUE.sentence("when one more is recorded, the oldest one is dropped: of many");
        for (int count = 10; count <= 34; count++) {
            undoneOneByOne(acts(count), count, 8);
        }
    }

    private static void fullAgainAfterUndo() {
        DUE.sentence("at most 8 states are recorded: after some were dropped by undo");
        for (int count = 8; count <= 16; count++) {
            RamStation x = acts(count);
            x.undo();
            x.undo();
            x.undo();
            for (int i = count - 2; i <= count + 1; i++) {
                x.setInflow(i);
            }
            undoneOneByOne(x, count + 1, 8);
        }
    }

    private static void oldestIsDropped() {
        DUE.sentence("the oldest one is dropped: the state without pumps");
        RamStation x = new RamStation();
        x.addPump(20, 50, 5, 0, 30);
        for (int i = 0; i < 8; i++) {
            x.pass(1);
        }
        for (int i = 0; i < 8; i++) {
            x.undo();
        }
        DUE.due("undo", x.undo(), NONE);
        DUE.due("pumps", x.pumps(), 1);
        DUE.due("time", x.time(), 0);
    }

    private static void errorsRecordNothing() {
        DUE.sentence("records the state before it, unless it returns an error");
        RamStation x = new RamStation();
        x.addPump(20, 50, 5, 0, 30);
        x.start(0);
        x.addPump(9, 50, 5, 0, 30);
        x.setValve(0, 0, 60);
        x.setValve(0, 3, 60);
        x.setChamber(0, 400, false);
        x.setChamber(0, 49, false);
        x.setInflow(501);
        x.start(0);
        x.stop(1);
        x.emptyTank(0);
        x.pass(0);
        x.execute();
        x.type('w');
        x.execute();
        DUE.due("undo", x.undo(), 1);
        x.stop(0);
        DUE.due("undo", x.undo(), 0);
        for (int i = 0; i < 3; i++) {
            x.addPump(20, 50, 5, 0, 30);
        }
        DUE.due("a fifth pump", x.addPump(20, 50, 5, 0, 30), 3);
        DUE.due("a fifth pump", x.addPump(20, 50, 5, 0, 30), RamStation.FULL);
        DUE.due("undo", x.undo(), 3);
        DUE.due("pumps", x.pumps(), 3);
    }

    private static void readingsRecordNothing() {
        DUE.sentence("a method that is called an act: no other one records a state");
        RamStation x = new RamStation();
        x.addPump(20, 50, 5, 0, 30);
        x.type('w');
        x.clearText();
        x.syntaxError();
        x.failure();
        x.time();
        x.incidentKind(0);
        x.phase(0);
        x.chamberHead(0);
        x.interval(0, 0);
        x.trace(0, 0);
        x.efficiency(0);
        x.bestPump();
        x.ticksToSlam(0);
        x.deliveredIn(0, 9);
        x.drawnIn(0, 9);
        x.period(0);
        x.bestLength(0, 9);
        x.bestSetting(0, 9);
        DUE.due("undo", x.undo(), 0);
    }

    private static void undoRecordsNothing() {
        DUE.sentence("undo is no act");
        RamStation x = acts(5);
        DUE.due("undo", x.undo(), 4);
        DUE.due("undo", x.undo(), 3);
        inflow(x, 3);
    }

    private static void theLatestFirst() {
        DUE.sentence("restores the latest recorded state");
        RamStation x = new RamStation();
        x.pass(1);
        x.pass(2);
        x.pass(4);
        DUE.due("undo", x.undo(), 2);
        DUE.due("time", x.time(), 3);
        DUE.due("undo", x.undo(), 1);
        DUE.due("time", x.time(), 1);
        x.pass(8);
        DUE.due("undo", x.undo(), 1);
        DUE.due("time", x.time(), 1);
        DUE.due("undo", x.undo(), 0);
        DUE.due("time", x.time(), 0);
    }

    private static RamStation withPump() {
        RamStation x = new RamStation();
        x.addPump(20, 50, 5, 0, 30);
        return x;
    }

    private static void addPumpIsAnAct() {
        DUE.sentence("addPump: this is an act");
        RamStation x = withPump();
        x.addPump(20, 50, 5, 0, 30);
        DUE.due("undo", x.undo(), 1);
        DUE.due("pumps", x.pumps(), 1);
        DUE.due("undo", x.undo(), 0);
        DUE.due("pumps", x.pumps(), 0);
    }

    private static void setValveIsAnAct() {
        DUE.sentence("setValve: this is an act");
        RamStation x = withPump();
        x.setValve(0, 2, 7);
        DUE.due("slam", x.ticksToSlam(0), 7);
        DUE.due("undo", x.undo(), 1);
        DUE.due("slam", x.ticksToSlam(0), 2);
        DUE.due("setting", x.setValve(0, 0, 60), 60);
    }

    private static void setChamberIsAnAct() {
        DUE.sentence("setChamber: this is an act");
        RamStation x = withPump();
        x.start(0);
        x.pass(4);
        x.stop(0);
        x.setChamber(0, 50, false);
        DUE.due("undo", x.undo(), 4);
        DUE.due("air", x.air(0), 399);
        DUE.due("chamberWater", x.chamberWater(0), 79);
        DUE.due("basin", x.basin(), 5301);
    }

    private static void setInflowIsAnAct() {
        DUE.sentence("setInflow: this is an act");
        RamStation x = withPump();
        x.setInflow(0);
        DUE.due("undo", x.undo(), 1);
        x.pass(1);
        DUE.due("basin", x.basin(), 5100);
    }

    private static void startIsAnAct() {
        DUE.sentence("start: this is an act");
        RamStation x = withPump();
        x.start(0);
        DUE.due("undo", x.undo(), 1);
        DUE.due("phase", x.phase(0), 0);
    }

    private static void stopIsAnAct() {
        DUE.sentence("stop: this is an act");
        RamStation x = withPump();
        x.start(0);
        x.pass(3);
        x.stop(0);
        DUE.due("undo", x.undo(), 3);
        DUE.due("phase", x.phase(0), 2);
    }

    private static void emptyTankIsAnAct() {
        DUE.sentence("emptyTank: this is an act");
        RamStation x = withPump();
        x.start(0);
        x.pass(24);
        x.emptyTank(0);
        DUE.due("undo", x.undo(), 3);
        DUE.due("tank", x.tank(0), 134);
        DUE.due("undo", x.undo(), 2);
        DUE.due("tank", x.tank(0), 0);
    }

    private static void passIsAnAct() {
        DUE.sentence("pass: this is an act");
        RamStation x = withPump();
        x.pass(3);
        DUE.due("undo", x.undo(), 1);
        DUE.due("time", x.time(), 0);
        DUE.due("basin", x.basin(), 5000);
    }

    private static void executeIsAnAct() {
        DUE.sentence("execute: this is one act");
        RamStation x = withPump();
        for (char sign : "w3;r0;w4;h0".toCharArray()) {
            x.type(sign);
        }
        DUE.due("execute", x.execute(), 4);
        DUE.due("undo", x.undo(), 1);
        DUE.due("time", x.time(), 0);
        DUE.due("trace", x.trace(0, 0), NONE);
        x.pass(1);
        DUE.due("an act after it", x.undo(), 1);
    }

    // A pump that starves and relieves, and whose tank overflows.
    private static void countersRestored() {
        DUE.sentence("the state of a station consists of everything: the counters");
        RamStation x = new RamStation();
        x.addPump(99, 10, 11, 0, 100);
        x.setChamber(0, 60, true);
        x.setInflow(500);
        x.start(0);
        x.pass(100);
        int[] before = counters(x);
        for (int i = 0; i < 7; i++) {
            x.pass(200);
        }
        int[] between = counters(x);
        for (int i = 0; i < 7; i++) {
            x.undo();
        }
        int[] after = counters(x);
        for (int i = 0; i < before.length; i++) {
            DUE.due("counter " + i + " has changed", between[i] != before[i]);
            DUE.due("counter " + i, after[i], before[i]);
        }
    }

    private static int[] counters(RamStation x) {
        return new int[] {x.beats(0), x.relieved(0), x.lifted(0), x.overflowed(0), x.starved(0), x.tank(0)};
    }

    private static void spilledRestored() {
        DUE.sentence("the state of a station consists of everything: the spilled liters");
        RamStation x = new RamStation();
        x.pass(155);
        DUE.due("spilled", x.spilled(), 500);
        x.pass(10);
        DUE.due("spilled", x.spilled(), 1500);
        x.undo();
        DUE.due("spilled", x.spilled(), 500);
        x.undo();
        DUE.due("spilled", x.spilled(), 0);
    }

    private static void fourPumpsRestored() {
        DUE.sentence("the state of a station consists of everything: of 4 pumps");
        RamStation x = new RamStation();
        for (int pump = 0; pump < 4; pump++) {
            x.addPump(20, 50 * (pump + 1), 5, 0, 30);
            x.start(pump);
        }
        x.pass(20);
        int[] before = values(x);
        x.pass(33);
        int[] between = values(x);
        for (int i = 0; i < before.length; i++) {
            DUE.due("value " + i + " has changed", between[i] != before[i]);
        }
        x.undo();
        int[] after = values(x);
        for (int i = 0; i < before.length; i++) {
            DUE.due("value " + i, after[i], before[i]);
        }
    }

    private static int[] values(RamStation x) {
        return new int[] {x.time(), x.basin(), x.chamberWater(0), x.chamberWater(1), x.chamberWater(2),
            x.chamberWater(3), x.beats(0), x.beats(1), x.beats(2), x.beats(3), x.air(0), x.air(1), x.air(2), x.air(3),
            x.wasted(0), x.wasted(1), x.wasted(2), x.wasted(3), x.tank(0), x.tank(1), x.lifted(0), x.lifted(1)};
    }

    private static void pumpAddedAnew() {
        DUE.sentence("the state of a station consists of everything: the number of its pumps");
        RamStation x = new RamStation();
        x.addPump(20, 50, 5, 0, 30);
        x.addPump(20, 50, 5, 0, 30);
        x.start(1);
        x.pass(60);
        x.undo();
        x.undo();
        DUE.due("undo of pump 1", x.undo(), 1);
        DUE.due("speed", x.speed(1), RamStation.NO_SUCH_PUMP);
        DUE.due("addPump", x.addPump(10, 100, 1, 0, 11), 1);
        DUE.due("phase", x.phase(1), 0);
        DUE.due("lifted", x.lifted(1), 0);
        DUE.due("trace", x.trace(1, 0), NONE);
        DUE.due("interval", x.interval(1, 0), NONE);
        x.start(1);
        x.pass(1);
        DUE.due("speed", x.speed(1), 10);
    }

    private static void runningRestored() {
        DUE.sentence("the state of a station consists of everything: which pumps run");
        RamStation x = new RamStation();
        x.addPump(20, 50, 5, 0, 30);
        x.start(0);
        x.pass(3);
        x.stop(0);
        x.undo();
        DUE.due("phase", x.phase(0), 2);
        DUE.due("speed", x.speed(0), 79);
        DUE.due("openTicks", x.openTicks(0), 2);
        x.undo();
        DUE.due("phase", x.phase(0), 1);
        x.undo();
        DUE.due("phase", x.phase(0), 0);
    }

    private static void settingsRestored() {
        DUE.sentence("the state of a station consists of everything: inflow, valve, chamber");
        RamStation x = new RamStation();
        x.addPump(10, 400, 1, 0, 11);
        x.setInflow(3);
        x.setValve(0, 2, 1);
        x.setChamber(0, 50, true);
        x.setInflow(4);
        x.setValve(0, 1, 9);
        x.setChamber(0, 60, false);
        x.undo();
        x.undo();
        x.undo();
        DUE.due("air", x.air(0), 50);
        DUE.due("kind and setting", x.ticksToSlam(0), 1);
        x.start(0);
        x.pass(2);
        DUE.due("with a snifter valve", x.air(0), 50);
        DUE.due("basin", x.basin(), 5006);
        x.stop(0);
        DUE.due("setting", x.setValve(0, 0, 60), 1);
    }

    private static void ringsRestored() {
        DUE.sentence("the state of a station consists of everything: intervals and trace");
        RamStation x = new RamStation();
        x.addPump(10, 400, 1, 0, 11);
        x.setValve(0, 2, 1);
        x.start(0);
        x.pass(4);
        x.setInflow(7);
        x.pass(200);
        x.undo();
        DUE.due("interval 0", x.interval(0, 0), 3);
        DUE.due("interval 1", x.interval(0, 1), 0);
        DUE.due("interval 2", x.interval(0, 2), NONE);
        DUE.due("trace 0", x.trace(0, 0), 2);
        DUE.due("trace 1", x.trace(0, 1), 0);
        DUE.due("trace 3", x.trace(0, 3), 2);
        DUE.due("trace 4", x.trace(0, 4), NONE);
        x.pass(1);
        DUE.due("trace 0", x.trace(0, 0), 1);
        DUE.due("trace 1", x.trace(0, 1), 2);
        DUE.due("trace 4", x.trace(0, 4), 2);
        DUE.due("trace 5", x.trace(0, 5), NONE);
    }

    private static void timeOfTheStartRestored() {
        DUE.sentence("the state of a station consists of everything: the time of the start");
        RamStation x = new RamStation();
        x.addPump(10, 400, 1, 0, 11);
        x.setValve(0, 2, 5);
        x.pass(10);
        x.start(0);
        x.pass(3);
        x.stop(0);
        x.start(0);
        x.undo();
        x.undo();
        x.pass(2);
        DUE.due("slam at 14, start at 10", x.interval(0, 0), 4);
    }

    private static void timeOfTheSlamRestored() {
        DUE.sentence("the state of a station consists of everything: the time of the slam");
        RamStation x = new RamStation();
        x.addPump(10, 400, 1, 0, 11);
        x.setValve(0, 2, 1);
        x.start(0);
        x.pass(2);
        x.pass(3);
        DUE.due("slams at 0 and 3", x.interval(0, 0), 3);
        x.undo();
        DUE.due("slam at 0", x.interval(0, 0), 0);
        x.pass(2);
        DUE.due("slam at 3 again", x.interval(0, 0), 3);
        DUE.due("beats", x.beats(0), 2);
    }

    private static void textStays() {
        DUE.sentence("everything but the text");
        RamStation x = new RamStation();
        x.type('w');
        x.setInflow(1);
        x.type('9');
        x.undo();
        DUE.due("execute", x.execute(), 1);
        DUE.due("time", x.time(), 9);
        x.undo();
        DUE.due("clearText", x.clearText(), 2);
        x.setInflow(1);
        x.undo();
        DUE.due("clearText", x.clearText(), 0);
    }

    private static void failureStays() {
        DUE.sentence("everything but the result of failure()");
        RamStation x = new RamStation();
        x.type('r');
        x.type('0');
        x.execute();
        DUE.due("failure", x.failure(), RamStation.NO_SUCH_PUMP);
        DUE.due("undo", x.undo(), 0);
        DUE.due("failure", x.failure(), RamStation.NO_SUCH_PUMP);
        DUE.due("undo", x.undo(), NONE);
        DUE.due("failure", x.failure(), RamStation.NO_SUCH_PUMP);
    }
}
