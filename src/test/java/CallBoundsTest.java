/** The bounds of the promises 2 to 9 and 24 to 46: the least and the most of each argument, and what is answered. */
public final class CallBoundsTest {
    private static final Due DUE = new Due("CallBoundsTest");
    private static final int NO_SUCH_PUMP = RamStation.NO_SUCH_PUMP;
    private static final int BAD_VALUE = RamStation.BAD_VALUE;
    private static final int NOT_POSSIBLE = RamStation.NOT_POSSIBLE;
    private static final int NONE = RamStation.NONE;

    public static void main(String[] args) {
        supplyHead();
        driveLength();
        area();
        friction();
        lift();
        liftAboveTheSupplyHead();
        allLeastAndAllMost();
        numberAndFull();
        valveKind();
        valveSetting();
        previousSetting();
        chamberVolume();
        waterOfTheOldChamber();
        newChamber();
        inflow();
        startedPumps();
        stoppedPumps();
        startAndStopTwice();
        startKeepsAllElse();
        stopOpensTheValve();
        stopKeepsAllElse();
        emptyTank();
        ticksToPass();
        deliveredByAllPumps();
        pumpNumbers();
        phases();
        efficiencyOfNothing();
        efficiencyOfWastedAlone();
        efficiencyOfRelievedAlone();
        efficiencyOfLiftedAlone();
        efficiencyDiscards();
        efficiencyWithoutOverflow();
        bestOfNoPump();
        bestOfOne();
        bestOfEqualOnes();
        bestIsTheLast();
        bestStands();
        ticksOfDeliveredAndDrawn();
        ticksOfBest();
        DUE.end();
    }

    private static int added(int head, int length, int area, int friction, int lift) {
        RamStation x = new RamStation();
        int answer = x.addPump(head, length, area, friction, lift);
        DUE.due("pumps", x.pumps(), answer == 0 ? 1 : 0);
        return answer;
    }

    private static RamStation withPump() {
        RamStation x = new RamStation();
        x.addPump(20, 50, 5, 0, 30);
        return x;
    }

    private static void supplyHead() {
        DUE.sentence("supplyHead: 10 to 99");
        DUE.due("9", added(9, 50, 5, 10, 200), BAD_VALUE);
        DUE.due("10", added(10, 50, 5, 10, 200), 0);
        DUE.due("99", added(99, 50, 5, 10, 200), 0);
        DUE.due("100", added(100, 50, 5, 10, 200), BAD_VALUE);
        DUE.due("-10", added(-10, 50, 5, 10, 200), BAD_VALUE);
        DUE.due("the largest int, whose successor is the least one", added(Integer.MAX_VALUE, 50, 5, 10, 200),
                BAD_VALUE);
    }

    private static void driveLength() {
        DUE.sentence("driveLength: 10 to 400");
        DUE.due("9", added(20, 9, 5, 10, 60), BAD_VALUE);
        DUE.due("10", added(20, 10, 5, 10, 60), 0);
        DUE.due("400", added(20, 400, 5, 10, 60), 0);
        DUE.due("401", added(20, 401, 5, 10, 60), BAD_VALUE);
        DUE.due("0", added(20, 0, 5, 10, 60), BAD_VALUE);
    }

    private static void area() {
        DUE.sentence("area: 1 to 20");
        DUE.due("0", added(20, 50, 0, 10, 60), BAD_VALUE);
        DUE.due("1", added(20, 50, 1, 10, 60), 0);
        DUE.due("20", added(20, 50, 20, 10, 60), 0);
        DUE.due("21", added(20, 50, 21, 10, 60), BAD_VALUE);
    }

    private static void friction() {
        DUE.sentence("friction: 0 to 100");
        DUE.due("-1", added(20, 50, 5, -1, 60), BAD_VALUE);
        DUE.due("0", added(20, 50, 5, 0, 60), 0);
        DUE.due("100", added(20, 50, 5, 100, 60), 0);
        DUE.due("101", added(20, 50, 5, 101, 60), BAD_VALUE);
    }

    private static void lift() {
        DUE.sentence("lift: to 500");
        DUE.due("500", added(20, 50, 5, 10, 500), 0);
        DUE.due("501", added(20, 50, 5, 10, 501), BAD_VALUE);
        DUE.due("501 with the greatest head", added(99, 50, 5, 10, 501), BAD_VALUE);
    }

    private static void liftAboveTheSupplyHead() {
        DUE.sentence("lift: supplyHead + 1");
        int[] heads = {10, 11, 50, 98, 99};
        for (int head : heads) {
            DUE.due("one below " + head, added(head, 50, 5, 10, head - 1), BAD_VALUE);
            DUE.due("like " + head, added(head, 50, 5, 10, head), BAD_VALUE);
            DUE.due("one above " + head, added(head, 50, 5, 10, head + 1), 0);
        }
    }

    private static void allLeastAndAllMost() {
        DUE.sentence("addPump: all least, all most");
        DUE.due("all least", added(10, 10, 1, 0, 11), 0);
        DUE.due("all most", added(99, 400, 20, 100, 500), 0);
    }

    private static void numberAndFull() {
        DUE.sentence("returns the number of the new pump; FULL if there are 4 pumps");
        RamStation x = new RamStation();
        for (int i = 0; i < 4; i++) {
            DUE.due("addPump", x.addPump(20, 50, 5, 0, 30), i);
        }
        DUE.due("a fifth", x.addPump(20, 50, 5, 0, 30), RamStation.FULL);
        DUE.due("a bad fifth", x.addPump(20, 50, 5, 0, 20), BAD_VALUE);
        x.undo();
        DUE.due("a fourth again", x.addPump(20, 50, 5, 0, 30), 3);
        DUE.due("a fifth again", x.addPump(20, 50, 5, 0, 30), RamStation.FULL);
    }

    private static void valveKind() {
        DUE.sentence("kind: 0 to 2");
        RamStation x = withPump();
        DUE.due("-1", x.setValve(0, -1, 60), BAD_VALUE);
        DUE.due("0", x.setValve(0, 0, 60), 60);
        DUE.due("1", x.setValve(0, 1, 60), 60);
        DUE.due("2", x.setValve(0, 2, 60), 60);
        DUE.due("3", x.setValve(0, 3, 60), BAD_VALUE);
        DUE.due("the kind is 2 still", x.ticksToSlam(0), 60);
    }

    private static void valveSetting() {
        DUE.sentence("setting: 1 to 500");
        RamStation x = withPump();
        DUE.due("0", x.setValve(0, 2, 0), BAD_VALUE);
        DUE.due("1", x.setValve(0, 2, 1), 60);
        DUE.due("slam", x.ticksToSlam(0), 1);
        DUE.due("500", x.setValve(0, 2, 500), 1);
        DUE.due("slam", x.ticksToSlam(0), 500);
        DUE.due("501", x.setValve(0, 2, 501), BAD_VALUE);
        DUE.due("the setting is 500 still", x.ticksToSlam(0), 500);
    }

    private static void previousSetting() {
        DUE.sentence("returns the previous setting");
        RamStation x = withPump();
        x.addPump(20, 50, 5, 0, 30);
        DUE.due("the first one", x.setValve(0, 1, 500), 60);
        DUE.due("most", x.setValve(0, 0, 1), 500);
        DUE.due("least", x.setValve(0, 0, 7), 1);
        DUE.due("of the other pump", x.setValve(1, 0, 7), 60);
    }

    private static void chamberVolume() {
        DUE.sentence("volume: 50 to 2000");
        RamStation x = withPump();
        DUE.due("49", x.setChamber(0, 49, false), BAD_VALUE);
        DUE.due("air", x.air(0), 400);
        DUE.due("50", x.setChamber(0, 50, false), 0);
        DUE.due("air", x.air(0), 50);
        DUE.due("2000", x.setChamber(0, 2000, false), 0);
        DUE.due("air", x.air(0), 2000);
        DUE.due("2001", x.setChamber(0, 2001, false), BAD_VALUE);
        DUE.due("air", x.air(0), 2000);
    }

    private static void waterOfTheOldChamber() {
        DUE.sentence("returns the chamber water that the old chamber contained; it is added to the basin");
        RamStation x = withPump();
        DUE.due("none", x.setChamber(0, 400, false), 0);
        DUE.due("basin", x.basin(), 5000);
        x.start(0);
        x.pass(4);
        x.stop(0);
        int basin = x.basin();
        DUE.due("chamberWater", x.chamberWater(0), 79);
        DUE.due("some", x.setChamber(0, 400, false), 79);
        DUE.due("basin", x.basin(), basin + 79);
        DUE.due("chamberWater", x.chamberWater(0), 0);
        DUE.due("again", x.setChamber(0, 400, false), 0);
        DUE.due("basin", x.basin(), basin + 79);
        DUE.due("spilled", x.spilled(), 0);
    }

    private static void newChamber() {
        DUE.sentence("the new chamber contains no water, and air of its whole volume");
        RamStation x = withPump();
        x.setValve(0, 0, 40);
        x.start(0);
        x.pass(20);
        x.stop(0);
        DUE.due("air is lost", x.air(0) < 400);
        int beats = x.beats(0);
        x.setChamber(0, 400, false);
        DUE.due("air", x.air(0), 400);
        DUE.due("chamberWater", x.chamberWater(0), 0);
        DUE.due("chamberHead", x.chamberHead(0), 0);
        DUE.due("beats stay", x.beats(0), beats);
        DUE.due("trace stays", x.trace(0, 19), 40);
        x.setChamber(0, 60, true);
        x.start(0);
        x.pass(1);
        DUE.due("beats", x.beats(0), beats + 1);
        DUE.due("the snifter valve keeps the air", x.air(0), 60);
        x.stop(0);
        x.setChamber(0, 60, false);
        x.start(0);
        x.pass(1);
        DUE.due("without one it loses air", x.air(0), 59);
    }

    private static void inflow() {
        DUE.sentence("liters: 0 to 500; returns the previous inflow");
        RamStation x = new RamStation();
        DUE.due("-1", x.setInflow(-1), BAD_VALUE);
        DUE.due("0", x.setInflow(0), 100);
        DUE.due("500", x.setInflow(500), 0);
        DUE.due("501", x.setInflow(501), BAD_VALUE);
        DUE.due("1", x.setInflow(1), 500);
        DUE.due("100", x.setInflow(100), 1);
    }

    private static RamStation withFour() {
        RamStation x = new RamStation();
        for (int i = 0; i < 4; i++) {
            x.addPump(20, 50, 5, 0, 30);
        }
        return x;
    }

    private static void startedPumps() {
        DUE.sentence("start returns the number of pumps that run then");
        RamStation x = withFour();
        DUE.due("3", x.start(3), 1);
        DUE.due("0", x.start(0), 2);
        DUE.due("1", x.start(1), 3);
        DUE.due("2", x.start(2), 4);
        DUE.due("4", x.start(4), NO_SUCH_PUMP);
        DUE.due("-1", x.start(-1), NO_SUCH_PUMP);
    }

    private static void stoppedPumps() {
        DUE.sentence("stop returns the number of pumps that run then");
        RamStation x = withFour();
        for (int i = 0; i < 4; i++) {
            x.start(i);
        }
        DUE.due("3", x.stop(3), 3);
        DUE.due("0", x.stop(0), 2);
        DUE.due("1", x.stop(1), 1);
        DUE.due("2", x.stop(2), 0);
        DUE.due("4", x.stop(4), NO_SUCH_PUMP);
        DUE.due("-1", x.stop(-1), NO_SUCH_PUMP);
    }

    private static void startAndStopTwice() {
        DUE.sentence("NOT_POSSIBLE if the pump runs; NOT_POSSIBLE if the pump does not run");
        RamStation x = withPump();
        DUE.due("stop", x.stop(0), NOT_POSSIBLE);
        DUE.due("start", x.start(0), 1);
        DUE.due("start", x.start(0), NOT_POSSIBLE);
        DUE.due("stop", x.stop(0), 0);
        DUE.due("stop", x.stop(0), NOT_POSSIBLE);
        DUE.due("start", x.start(0), 1);
    }

    private static int[] kept(RamStation x) {
        return new int[] {x.chamberWater(0), x.air(0), x.chamberHead(0), x.beats(0), x.wasted(0), x.relieved(0),
            x.lifted(0), x.overflowed(0), x.starved(0), x.tank(0), x.interval(0, 0), x.interval(0, 1), x.interval(0, 2),
            x.trace(0, 0), x.trace(0, 1), x.trace(0, 2), x.efficiency(0), x.time(), x.basin(), x.spilled()};
    }

    private static void sameAs(String call, int[] got, int[] want) {
        for (int i = 0; i < want.length; i++) {
            DUE.due("value " + i + " after " + call, got[i], want[i]);
        }
    }

    private static RamStation afterSomeBeats() {
        RamStation x = withPump();
        x.start(0);
        x.pass(23);
        return x;
    }

    private static void startKeepsAllElse() {
        DUE.sentence("starts a pump: all else stays");
        RamStation x = afterSomeBeats();
        x.stop(0);
        x.pass(2);
        int[] before = kept(x);
        x.start(0);
        sameAs("start", kept(x), before);
        DUE.due("speed", x.speed(0), 0);
        DUE.due("openTicks", x.openTicks(0), 0);
    }

    private static void stopKeepsAllElse() {
        DUE.sentence("stops a pump: all else stays");
        RamStation x = afterSomeBeats();
        int[] before = kept(x);
        x.stop(0);
        sameAs("stop", kept(x), before);
    }

    private static void stopOpensTheValve() {
        DUE.sentence("its speed becomes 0, its waste valve is open then, and its open ticks become 0");
        RamStation x = withPump();
        x.start(0);
        x.pass(1);
        x.stop(0);
        DUE.due("speed", x.speed(0), 0);
        DUE.due("openTicks", x.openTicks(0), 0);
        x.start(0);
        x.pass(3);
        DUE.due("phase", x.phase(0), 2);
        x.stop(0);
        DUE.due("speed", x.speed(0), 0);
        DUE.due("openTicks", x.openTicks(0), 0);
        DUE.due("phase", x.phase(0), 0);
        DUE.due("ticksToSlam of the open valve", x.ticksToSlam(0), 2);
        x.start(0);
        DUE.due("phase", x.phase(0), 1);
    }

    // Pump 1 delivers its first liter in tick 5.
    private static void emptyTank() {
        DUE.sentence("NOT_POSSIBLE if the tank is empty: of 0 liters, not of 1");
        RamStation x = withPump();
        x.addPump(20, 50, 5, 0, 30);
        x.start(1);
        x.pass(4);
        DUE.due("0 liters", x.emptyTank(1), NOT_POSSIBLE);
        x.pass(1);
        DUE.due("tank", x.tank(1), 1);
        DUE.due("1 liter", x.emptyTank(1), 1);
        DUE.due("tank", x.tank(1), 0);
        DUE.due("0 liters", x.emptyTank(1), NOT_POSSIBLE);
        DUE.due("of the other pump", x.emptyTank(0), NOT_POSSIBLE);
        DUE.due("of no pump", x.emptyTank(2), NO_SUCH_PUMP);
    }

    private static void ticksToPass() {
        DUE.sentence("ticks: 1 to 200");
        RamStation x = new RamStation();
        DUE.due("0", x.pass(0), BAD_VALUE);
        DUE.due("1", x.pass(1), 0);
        DUE.due("time", x.time(), 1);
        DUE.due("200", x.pass(200), 0);
        DUE.due("time", x.time(), 201);
        DUE.due("201", x.pass(201), BAD_VALUE);
        DUE.due("-1", x.pass(-1), BAD_VALUE);
        DUE.due("time", x.time(), 201);
    }

    private static void deliveredByAllPumps() {
        DUE.sentence("returns the water that was delivered by all pumps in these ticks");
        RamStation x = withFour();
        x.setInflow(500);
        DUE.due("none runs", x.pass(9), 0);
        x.start(0);
        DUE.due("one in 24 ticks", x.pass(24), 134);
        x.undo();
        x.start(1);
        x.start(2);
        x.start(3);
        DUE.due("four in 24 ticks", x.pass(24), 4 * 134);
        DUE.due("in the ticks after them", x.pass(7), x.lifted(0) + x.lifted(1) + x.lifted(2) + x.lifted(3) - 4 * 134);
        DUE.due("lifted", x.lifted(3) > 134);
    }

    private static int[] pumpValues(RamStation x, int p) {
        return new int[] {x.phase(p), x.speed(p), x.openTicks(p), x.chamberWater(p), x.air(p), x.chamberHead(p),
            x.beats(p), x.wasted(p), x.relieved(p), x.lifted(p), x.overflowed(p), x.starved(p), x.tank(p),
            x.interval(p, 0), x.trace(p, 0), x.efficiency(p), x.ticksToSlam(p), x.deliveredIn(p, 9), x.drawnIn(p, 9),
            x.period(p), x.bestLength(p, 9), x.bestSetting(p, 9)};
    }

    private static void pumpNumbers() {
        DUE.sentence("number of a pump: from 0 to one less than there are");
        RamStation x = new RamStation();
        for (int count = 0; count <= 4; count++) {
            for (int number = -1; number <= 5; number++) {
                for (int answer : pumpValues(x, number)) {
                    boolean refused = answer == NO_SUCH_PUMP;
                    DUE.due("pump " + number + " of " + count, refused, number < 0 || number >= count);
                }
            }
            x = new RamStation();
            for (int i = 0; i <= count; i++) {
                x.addPump(20, 50, 5, 0, 30);
            }
        }
    }

    private static void phases() {
        DUE.sentence("0 if the pump does not run, 1 if its waste valve is open, 2 if it is closed");
        RamStation x = withPump();
        DUE.due("new", x.phase(0), 0);
        x.start(0);
        int[] phases = {1, 1, 2, 2, 2, 2, 1, 1, 2};
        for (int phase : phases) {
            DUE.due("time " + x.time(), x.phase(0), phase);
            x.pass(1);
        }
        x.stop(0);
        DUE.due("stopped", x.phase(0), 0);
    }

    private static void efficiencyOfNothing() {
        DUE.sentence("NONE if wasted, relieved and lifted are all 0");
        RamStation x = withPump();
        DUE.due("new", x.efficiency(0), NONE);
        x.start(0);
        x.pass(1);
        DUE.due("a tick without flow", x.efficiency(0), NONE);
        RamStation y = new RamStation();
        y.addPump(10, 400, 1, 0, 11);
        y.setValve(0, 2, 1);
        y.start(0);
        y.pass(200);
        DUE.due("beats without flow", y.beats(0), 67);
        DUE.due("efficiency", y.efficiency(0), NONE);
    }

    private static void counters(RamStation x, int wasted, int relieved, int lifted) {
        DUE.due("wasted", x.wasted(0), wasted);
        DUE.due("relieved", x.relieved(0), relieved);
        DUE.due("lifted", x.lifted(0), lifted);
    }

    private static void efficiencyOfWastedAlone() {
        DUE.sentence("wasted, relieved and lifted: just 1 liter wasted");
        RamStation x = new RamStation();
        x.addPump(40, 400, 1, 0, 500);
        x.setValve(0, 2, 500);
        x.start(0);
        x.pass(2);
        counters(x, 1, 0, 0);
        DUE.due("efficiency", x.efficiency(0), 0);
    }

    // 45 beats without flow leave 5 liters of air in 50; then each beat adds 1 liter, and the chamber takes 45.
    private static void efficiencyOfRelievedAlone() {
        DUE.sentence("wasted, relieved and lifted: just 1 liter relieved");
        RamStation x = new RamStation();
        x.addPump(10, 400, 1, 0, 11);
        x.setChamber(0, 50, false);
        x.setValve(0, 2, 1);
        x.start(0);
        x.pass(135);
        x.stop(0);
        x.setValve(0, 0, 10);
        x.start(0);
        for (int beat = 1; beat <= 45; beat++) {
            x.pass(15);
            DUE.due("chamberWater", x.chamberWater(0), beat);
        }
        counters(x, 0, 0, 0);
        DUE.due("efficiency", x.efficiency(0), NONE);
        x.pass(15);
        counters(x, 0, 1, 0);
        DUE.due("efficiency", x.efficiency(0), 0);
    }

    // 10 liters are pushed into the chamber of 50; the head of 100 * 49 / 40 - 100 lifts 1 + 11 / 10.
    private static void efficiencyOfLiftedAlone() {
        DUE.sentence("wasted, relieved and lifted: just 2 liters lifted");
        RamStation x = new RamStation();
        x.addPump(10, 10, 1, 0, 11);
        x.setChamber(0, 50, false);
        x.setValve(0, 2, 1);
        x.start(0);
        x.pass(2);
        counters(x, 0, 0, 2);
        DUE.due("1000 * 2 * 11 / (2 * 10)", x.efficiency(0), 1100);
    }

    private static void efficiencyDiscards() {
        DUE.sentence("1000 * lifted * lift / ((wasted + relieved + lifted) * (supply head))");
        RamStation x = withPump();
        x.start(0);
        x.pass(5);
        counters(x, 20, 0, 1);
        DUE.due("30000 / 420, with a remainder of 180", x.efficiency(0), 71);
        x.pass(1);
        counters(x, 20, 0, 3);
        DUE.due("90000 / 460, with a remainder of 300", x.efficiency(0), 195);
    }

    private static void efficiencyWithoutOverflow() {
        DUE.sentence("computed without overflow");
        RamStation x = new RamStation();
        x.addPump(99, 10, 20, 0, 500);
        x.setChamber(0, 2000, true);
        x.setInflow(500);
        x.start(0);
        for (int i = 0; i < 100; i++) {
            x.pass(200);
            long lifted = x.lifted(0);
            long through = lifted + x.wasted(0) + x.relieved(0);
            DUE.due("efficiency", x.efficiency(0), 1000 * lifted * 500 / (through * 99));
        }
        DUE.due("1000 * lifted * 500 is beyond an int", 1000L * x.lifted(0) * 500 > Integer.MAX_VALUE);
        DUE.due("bestPump", x.bestPump(), 0);
    }

    private static void bestOfNoPump() {
        DUE.sentence("NONE if no pump has an efficiency");
        RamStation x = new RamStation();
        DUE.due("no pump", x.bestPump(), NONE);
        x = withFour();
        DUE.due("four new pumps", x.bestPump(), NONE);
        x.start(0);
        x.pass(1);
        DUE.due("without flow", x.bestPump(), NONE);
    }

    private static void bestOfOne() {
        DUE.sentence("the greatest efficiency: the only one, of 0");
        for (int pump = 0; pump < 4; pump++) {
            RamStation x = withFour();
            x.start(pump);
            x.pass(2);
            DUE.due("efficiency", x.efficiency(pump), 0);
            DUE.due("bestPump", x.bestPump(), pump);
        }
    }

    private static void bestOfEqualOnes() {
        DUE.sentence("the lowest number if there are several");
        for (int first = 0; first < 3; first++) {
            RamStation x = withFour();
            x.setInflow(500);
            for (int pump = 3; pump >= first; pump--) {
                x.start(pump);
            }
            x.pass(40);
            DUE.due("equal", x.efficiency(3), x.efficiency(first));
            DUE.due("above 0", x.efficiency(3) > 0);
            DUE.due("bestPump", x.bestPump(), first);
        }
    }

    private static void bestIsTheLast() {
        DUE.sentence("the number of the pump with the greatest efficiency: of the last one");
        RamStation x = new RamStation();
        x.setInflow(500);
        for (int pump = 0; pump < 4; pump++) {
            x.addPump(20, 50, 5, 0, 60 + 10 * pump);
            x.start(pump);
        }
        x.pass(200);
        x.pass(200);
        for (int pump = 0; pump < 3; pump++) {
            DUE.due("more than pump " + pump, x.efficiency(3) > x.efficiency(pump));
        }
        DUE.due("bestPump", x.bestPump(), 3);
    }

    private static void bestStands() {
        DUE.sentence("the number of the pump with the greatest efficiency: it need not run");
        RamStation x = withFour();
        x.start(2);
        x.pass(40);
        DUE.due("bestPump", x.bestPump(), 2);
        x.stop(2);
        DUE.due("stopped", x.bestPump(), 2);
        x.start(0);
        x.pass(2);
        DUE.due("another one has an efficiency of 0", x.efficiency(0), 0);
        DUE.due("bestPump", x.bestPump(), 2);
    }

    private static void ticksOfDeliveredAndDrawn() {
        DUE.sentence("ticks: 1 to 500");
        RamStation x = withPump();
        int[] bad = {0, 501, -1};
        for (int ticks : bad) {
            DUE.due("deliveredIn " + ticks, x.deliveredIn(0, ticks), BAD_VALUE);
            DUE.due("drawnIn " + ticks, x.drawnIn(0, ticks), BAD_VALUE);
        }
        DUE.due("deliveredIn 1", x.deliveredIn(0, 1), 0);
        DUE.due("drawnIn 1", x.drawnIn(0, 1), 0);
        DUE.due("deliveredIn 500", x.deliveredIn(0, 500) > x.deliveredIn(0, 300));
        DUE.due("drawnIn 500", x.drawnIn(0, 500) > x.drawnIn(0, 300));
    }

    private static void ticksOfBest() {
        DUE.sentence("number of ticks of each trial, 1 to 300");
        RamStation x = withPump();
        int[] bad = {0, 301, -1};
        for (int ticks : bad) {
            DUE.due("bestLength " + ticks, x.bestLength(0, ticks), BAD_VALUE);
            DUE.due("bestSetting " + ticks, x.bestSetting(0, ticks), BAD_VALUE);
        }
        DUE.due("bestLength 1", x.bestLength(0, 1), 10);
        DUE.due("bestSetting 1", x.bestSetting(0, 1), 10);
        DUE.due("bestLength 300", x.bestLength(0, 300) >= 10);
        DUE.due("bestSetting 300", x.bestSetting(0, 300) >= 10);
    }
}
