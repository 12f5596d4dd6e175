/** Promises 24 to 40: the values of a pump. */
public final class PumpTest {
    private static final Due DUE = new Due("PumpTest");
    private static final int NONE = RamStation.NONE;

    public static void main(String[] args) {
        noSuchPump();
        aBeat();
        strongBeat();
        fullChamber();
        oneLiterRelieved();
        headLikeTheLift();
        starving();
        speeds();
        intervals();
        trace();
        efficiency();
        efficiencyWithoutOverflow();
        bestPump();
        DUE.end();
    }

    /** Phase, speed, open ticks, chamber water, air, chamber head. */
    private static void flow(RamStation x, int phase, int speed, int openTicks, int water, int air, int head) {
        String at = "time " + x.time() + ": ";
        DUE.due(at + "phase", x.phase(0), phase);
        DUE.due(at + "speed", x.speed(0), speed);
        DUE.due(at + "openTicks", x.openTicks(0), openTicks);
        DUE.due(at + "chamberWater", x.chamberWater(0), water);
        DUE.due(at + "air", x.air(0), air);
        DUE.due(at + "chamberHead", x.chamberHead(0), head);
    }

    private static void counts(RamStation x, int beats, int wasted, int relieved, int lifted, int starved) {
        String at = "time " + x.time() + ": ";
        DUE.due(at + "beats", x.beats(0), beats);
        DUE.due(at + "wasted", x.wasted(0), wasted);
        DUE.due(at + "relieved", x.relieved(0), relieved);
        DUE.due(at + "lifted", x.lifted(0), lifted);
        DUE.due(at + "tank", x.tank(0), lifted);
        DUE.due(at + "overflowed", x.overflowed(0), 0);
        DUE.due(at + "starved", x.starved(0), starved);
    }

    private static void noSuchPump() {
        RamStation x = new RamStation();
        x.addPump(20, 50, 5, 0, 30);
        int[] wrong = {-1, 1, 4, Integer.MIN_VALUE, Integer.MAX_VALUE};
        for (int pump : wrong) {
            int[] answers = {x.phase(pump), x.speed(pump), x.openTicks(pump), x.chamberWater(pump), x.air(pump),
                x.chamberHead(pump), x.beats(pump), x.wasted(pump), x.relieved(pump), x.lifted(pump),
                x.overflowed(pump), x.starved(pump), x.tank(pump), x.interval(pump, -1), x.trace(pump, -1),
                x.efficiency(pump)};
            for (int i = 0; i < answers.length; i++) {
                DUE.due("no pump " + pump + ", value " + i, answers[i], RamStation.NO_SUCH_PUMP);
            }
        }
    }

    private static void aBeat() {
        RamStation x = new RamStation();
        x.addPump(20, 50, 5, 0, 30);
        flow(x, 0, 0, 0, 0, 400, 0);
        x.start(0);
        flow(x, 1, 0, 0, 0, 400, 0);
        x.pass(1);
        flow(x, 1, 40, 1, 0, 400, 0);
        counts(x, 0, 0, 0, 0, 0);
        x.pass(1);
        flow(x, 2, 80, 2, 0, 399, 0);
        counts(x, 1, 20, 0, 0, 0);
        x.pass(1);
        flow(x, 2, 79, 2, 40, 399, 10);
        x.pass(1);
        flow(x, 2, 70, 2, 79, 399, 24);
        counts(x, 1, 20, 0, 0, 0);
        // 35 liters more: the head is 100 * 399 / 286 - 100 = 39; 39 - 20 = 19 slow the water by 39;
        // of 114 liters 1 is delivered, since 39 - 30 is below 10.
        x.pass(1);
        flow(x, 2, 31, 2, 113, 399, 39);
        counts(x, 1, 20, 0, 1, 0);
        // 15 liters more: 128; 46 of head; slowed by 53, so the valve opens; 2 liters are delivered.
        x.pass(1);
        flow(x, 1, 0, 0, 126, 399, 45);
        counts(x, 1, 20, 0, 3, 0);
        // The chamber delivers while the valve is open, too: 1 + 15 / 10.
        x.pass(1);
        flow(x, 1, 40, 1, 124, 399, 44);
        counts(x, 1, 20, 0, 5, 0);
    }

    // The flow of 1980 liters fills the chamber of 50 up to its least space.
    private static void strongBeat() {
        RamStation x = new RamStation();
        x.addPump(99, 10, 20, 0, 500);
        x.setChamber(0, 50, false);
        x.start(0);
        x.pass(1);
        flow(x, 2, 990, 1, 0, 49, 0);
        x.pass(1);
        // A head of 880 delivers 1 + 380 / 10 of the 45 liters.
        flow(x, 1, 0, 0, 6, 49, 11);
        counts(x, 1, 0, 1935, 39, 0);
        DUE.due("basin", x.basin(), 3220);
        DUE.due("efficiency", x.efficiency(0), 99);
    }

    // The chamber of 400 liters takes 360: a head of 897 delivers 1 + 397 / 10.
    private static void fullChamber() {
        RamStation x = new RamStation();
        x.addPump(99, 10, 20, 0, 500);
        x.start(0);
        x.pass(2);
        flow(x, 1, 0, 0, 320, 399, 398);
        counts(x, 1, 0, 1620, 40, 0);
    }

    private static void oneLiterRelieved() {
        RamStation x = new RamStation();
        x.addPump(23, 100, 20, 0, 500);
        x.setChamber(0, 50, false);
        x.setValve(0, 2, 1);
        x.start(0);
        x.pass(2);
        counts(x, 1, 0, 1, 39, 0);
        DUE.due("an incident", x.incidents(), 1);
        DUE.due("of kind 2", x.incidentKind(0), 2);
    }

    private static void headLikeTheLift() {
        RamStation x = new RamStation();
        x.addPump(20, 50, 5, 0, 24);
        x.start(0);
        x.pass(4);
        flow(x, 2, 70, 2, 79, 399, 24);
        counts(x, 1, 20, 0, 0, 0);
    }

    private static void starving() {
        RamStation x = new RamStation();
        x.addPump(99, 10, 20, 0, 500);
        x.setChamber(0, 50, false);
        x.start(0);
        x.pass(5);
        flow(x, 2, 990, 1, 8, 47, 11);
        x.pass(1);
        flow(x, 1, 0, 0, 8, 47, 11);
        counts(x, 3, 0, 1935 + 1941, 39 + 37, 1);
        DUE.due("nothing is drawn", x.basin(), 1640);
        DUE.due("a starved tick is in the trace", x.trace(0, 0), 0);
        DUE.due("the tick before it", x.trace(0, 1), 990 - 1024);
    }

    // Friction, the greatest speed, and a speed that falls by 1.
    private static void speeds() {
        RamStation x = new RamStation();
        x.addPump(99, 10, 1, 0, 500);
        x.setValve(0, 2, 500);
        x.setInflow(500);
        x.start(0);
        int[] free = {990, 1980, 2000, 2000};
        for (int speed : free) {
            x.pass(1);
            DUE.due("speed", x.speed(0), speed);
        }
        speedsWithFriction(100, new int[] {990, 1000, 990, 1000});
        // The last loss is 44 * 1484 * 1484 / 100000 = 968, with a remainder of 99264.
        speedsWithFriction(44, new int[] {990, 1549, 1484, 1506});
        x = new RamStation();
        x.addPump(10, 400, 1, 0, 11);
        x.setValve(0, 0, 3);
        x.start(0);
        int[] slow = {2, 4, 3, 2, 1, 0, 2};
        int[] phases = {1, 2, 2, 2, 2, 1, 1};
        for (int i = 0; i < slow.length; i++) {
            x.pass(1);
            DUE.due("slow speed", x.speed(0), slow[i]);
            DUE.due("its phase", x.phase(0), phases[i]);
        }
    }

    private static void speedsWithFriction(int friction, int[] speeds) {
        RamStation x = new RamStation();
        x.addPump(99, 10, 1, friction, 500);
        x.setValve(0, 2, 500);
        x.setInflow(500);
        x.start(0);
        for (int speed : speeds) {
            x.pass(1);
            DUE.due("speed with a friction of " + friction, x.speed(0), speed);
        }
    }

    // Promise 37
    private static void intervals() {
        RamStation x = new RamStation();
        x.addPump(10, 400, 1, 0, 11);
        x.setValve(0, 2, 1);
        DUE.due("none yet", x.interval(0, 0), NONE);
        DUE.due("negative", x.interval(0, -1), RamStation.BAD_VALUE);
        x.pass(5);
        x.start(0);
        x.pass(1);
        DUE.due("from the start, not from time 0", x.interval(0, 0), 0);
        DUE.due("just one", x.interval(0, 1), NONE);
        x.pass(6);
        DUE.due("beats", x.beats(0), 3);
        DUE.due("third", x.interval(0, 0), 3);
        DUE.due("second", x.interval(0, 1), 3);
        DUE.due("first", x.interval(0, 2), 0);
        DUE.due("no fourth", x.interval(0, 3), NONE);
        x.stop(0);
        x.setValve(0, 2, 4);
        x.pass(20);
        x.start(0);
        x.pass(4);
        DUE.due("from the last start, not from the slam before", x.interval(0, 0), 3);
        DUE.due("the ones before stay", x.interval(0, 3), 0);
        x.pass(12 * 16);
        DUE.due("sixteenth", x.interval(0, 15), 12);
        DUE.due("no seventeenth", x.interval(0, 16), NONE);
        DUE.due("far back", x.interval(0, Integer.MAX_VALUE), NONE);
    }

    // Promise 38
    private static void trace() {
        RamStation x = new RamStation();
        x.addPump(20, 50, 1, 0, 30);
        x.setValve(0, 0, 500);
        DUE.due("none yet", x.trace(0, 0), NONE);
        DUE.due("negative", x.trace(0, -1), RamStation.BAD_VALUE);
        x.pass(3);
        DUE.due("none while it stands", x.trace(0, 0), NONE);
        x.start(0);
        x.pass(13);
        int[] bytes = {40, 80, 120, 160 - 256, 200 - 256, 240 - 256, 280 - 256, 320 - 256, 360 - 256, 400 - 512,
            440 - 512, 480 - 512, 520 - 512};
        for (int i = 0; i < bytes.length; i++) {
            DUE.due("trace of tick " + i, x.trace(0, bytes.length - 1 - i), bytes[i]);
        }
        DUE.due("no fourteenth", x.trace(0, 13), NONE);
        x.pass(19);
        DUE.due("the first is kept", x.trace(0, 31), 40);
        DUE.due("no more than 32", x.trace(0, 32), NONE);
        x.pass(1);
        DUE.due("now the second", x.trace(0, 31), 80);
        DUE.due("the first is no more kept", x.trace(0, 32), NONE);
        DUE.due("far back", x.trace(0, Integer.MAX_VALUE), NONE);
    }

    // Promise 39
    private static void efficiency() {
        RamStation x = new RamStation();
        x.addPump(20, 50, 5, 0, 30);
        DUE.due("nothing yet", x.efficiency(0), NONE);
        x.start(0);
        x.pass(1);
        DUE.due("no water yet", x.efficiency(0), NONE);
        x.pass(1);
        DUE.due("20 liters wasted", x.efficiency(0), 0);
        x.pass(3);
        DUE.due("1000 * 1 * 30 / (21 * 20)", x.efficiency(0), 71);
    }

    private static void efficiencyWithoutOverflow() {
        RamStation x = new RamStation();
        x.addPump(99, 10, 20, 0, 500);
        x.setChamber(0, 2000, true);
        x.setInflow(500);
        x.start(0);
        long lifted = 0;
        for (int i = 0; i < 100; i++) {
            lifted += x.pass(200);
        }
        DUE.due("lifted", x.lifted(0), lifted);
        DUE.due("beyond an int", 1000 * lifted * 500 > Integer.MAX_VALUE ? 1 : 0, 1);
        long through = lifted + x.wasted(0) + x.relieved(0);
        DUE.due("through head beyond an int", through * 99 > Integer.MAX_VALUE / 4 ? 1 : 0, 1);
        DUE.due("efficiency", x.efficiency(0), 1000 * lifted * 500 / (through * 99));
    }

    // Promise 40
    private static void bestPump() {
        RamStation x = new RamStation();
        DUE.due("no pump", x.bestPump(), NONE);
        x.addPump(10, 10, 1, 0, 11);
        x.addPump(20, 50, 5, 0, 30);
        x.addPump(20, 50, 5, 0, 30);
        x.addPump(20, 50, 5, 0, 40);
        DUE.due("no efficiency", x.bestPump(), NONE);
        x.start(3);
        x.pass(2);
        DUE.due("an efficiency of 0", x.efficiency(3), 0);
        DUE.due("the only one", x.bestPump(), 3);
        x.stop(3);
        x.start(1);
        x.start(2);
        x.pass(40);
        DUE.due("equal ones", x.efficiency(2), x.efficiency(1));
        DUE.due("above 0", x.efficiency(1) > 0 ? 1 : 0, 1);
        DUE.due("the first of the equal ones, not a lower one behind them", x.bestPump(), 1);
        x.stop(1);
        x.stop(2);
        x.setValve(0, 2, 500);
        x.start(0);
        x.pass(30);
        DUE.due("pump 0 is worse", x.efficiency(0) < x.efficiency(1) ? 1 : 0, 1);
        DUE.due("though it is first", x.bestPump(), 1);
        RamStation y = new RamStation();
        y.addPump(20, 50, 5, 0, 30);
        y.addPump(20, 50, 5, 0, 30);
        y.start(1);
        y.pass(30);
        y.start(0);
        y.pass(2);
        DUE.due("the greater one has the higher number", y.bestPump(), 1);
        y.undo();
        y.undo();
        y.stop(1);
        y.start(0);
        y.pass(30);
        DUE.due("both alike", y.efficiency(0), y.efficiency(1));
        DUE.due("pump 0", y.bestPump(), 0);
    }
}
