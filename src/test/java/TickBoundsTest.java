/** The bounds of 'Terms': a tick of a pump, step by step, and a slam. One method for each sentence. */
public final class TickBoundsTest {
    private static final Due DUE = new Due("TickBoundsTest");

    public static void main(String[] args) {
        flowDiscards();
        flowLikeTheBasin();
        flowOneLiterAboveTheBasin();
        starvingWithAClosedValve();
        starvingAgain();
        startsAnewAfterStarving();
        wastedIsTheFlowBeforeTheGain();
        gainDiscards();
        frictionDiscards();
        openTicksBeforeTheSlamRule();
        slamTickOmitsStepThree();
        headBelowTheSupplyHead();
        headLikeTheSupplyHead();
        headOneAboveTheSupplyHead();
        speedOfOneStaysClosed();
        speedOfZeroOpens();
        speedBelowZeroBecomesZero();
        headLikeTheLift();
        headOneAboveTheLift();
        headNineAndTenAboveTheLift();
        deliversAllItsWater();
        deliversAllButOneLiter();
        emptyChamberDelivers();
        deliversWithAnOpenValve();
        openTicksStayUntilItOpens();
        intervalSinceTheStart();
        intervalSinceThePreviousSlam();
        intervalSinceTheLastStart();
        airAtLeastTheLeastSpace();
        airWithASnifterValve();
        sixteenIntervals();
        thirtyTwoTraceNumbers();
        traceBytes();
        traceOfAStarvedTick();
        DUE.end();
    }

    /** A pump that stands and whose valve slams after some ticks. */
    private static RamStation timed(int head, int length, int area, int friction, int lift, int ticks) {
        RamStation x = new RamStation();
        x.addPump(head, length, area, friction, lift);
        x.setValve(0, 2, ticks);
        return x;
    }

    /** The tick in which the valve slams, at a speed of 100 * head / length, and the one after it. */
    private static RamStation slamAndPush(int head, int length, int area, int lift) {
        RamStation x = timed(head, length, area, 0, lift, 1);
        x.start(0);
        x.pass(2);
        return x;
    }

    private static void flowDiscards() {
        DUE.sentence("1. the flow is area * speed / 10 liters");
        int[][] headAreaFlow = {{36, 1, 0}, {40, 1, 1}, {76, 1, 1}, {80, 1, 2}, {36, 11, 9}, {36, 12, 10}};
        for (int[] row : headAreaFlow) {
            RamStation x = timed(row[0], 400, row[1], 0, 500, 500);
            x.start(0);
            x.pass(2);
            DUE.due("wasted with a speed of " + row[0] / 4 + " and an area of " + row[1], x.wasted(0), row[2]);
        }
    }

    // Flows of 0, 990, 1980 and 2000 liters are taken; the next one is 2000.
    private static void flowLikeTheBasin() {
        DUE.sentence("1. if the flow is greater than the water in the basin: it is not, it is equal");
        RamStation x = timed(99, 10, 10, 0, 500, 500);
        x.setInflow(197);
        x.pass(10);
        x.setInflow(0);
        x.start(0);
        x.pass(4);
        DUE.due("basin", x.basin(), 2000);
        x.pass(1);
        DUE.due("basin", x.basin(), 0);
        DUE.due("starved", x.starved(0), 0);
        DUE.due("speed", x.speed(0), 2000);
        DUE.due("wasted", x.wasted(0), 6970);
        DUE.due("openTicks", x.openTicks(0), 5);
        DUE.due("incidents", x.incidents(), 0);
    }

    private static void flowOneLiterAboveTheBasin() {
        DUE.sentence("1. if the flow is greater than the water in the basin: by 1 liter");
        RamStation x = timed(99, 10, 10, 0, 500, 500);
        x.setInflow(196);
        x.pass(9);
        x.setInflow(205);
        x.pass(1);
        x.setInflow(0);
        x.start(0);
        x.pass(4);
        DUE.due("basin", x.basin(), 1999);
        x.pass(1);
        DUE.due("basin", x.basin(), 1999);
        DUE.due("starved", x.starved(0), 1);
        DUE.due("speed", x.speed(0), 0);
        DUE.due("phase", x.phase(0), 1);
        DUE.due("openTicks", x.openTicks(0), 0);
        DUE.due("wasted", x.wasted(0), 4970);
        DUE.due("incidents", x.incidents(), 1);
        DUE.due("kind", x.incidentKind(0), 1);
        DUE.due("time", x.incidentTime(0), 14);
    }

    // The pump slams in the ticks 1, 3 and 5; in the ticks 2 and 4 it takes 1980 liters, of which the
    // chamber takes 1800 and 132; in tick 6 it lacks them. It lifts 80, 52, 80, 52 and 41 liters.
    private static void starvingWithAClosedValve() {
        DUE.sentence("1. the pump starves: the steps 2 and 3 are omitted, 4 and 5 are not");
        RamStation x = timed(99, 10, 20, 0, 100, 1);
        x.setChamber(0, 2000, false);
        x.setInflow(0);
        x.start(0);
        x.pass(5);
        DUE.due("phase before", x.phase(0), 2);
        DUE.due("basin before", x.basin(), 1040);
        DUE.due("chamberWater before", x.chamberWater(0), 1668);
        DUE.due("lifted before", x.lifted(0), 264);
        DUE.due("delivered", x.pass(1), 41);
        DUE.due("chamberWater", x.chamberWater(0), 1627);
        DUE.due("lifted", x.lifted(0), 305);
        DUE.due("tank", x.tank(0), 305);
        DUE.due("phase: the valve is open then", x.phase(0), 1);
        DUE.due("speed", x.speed(0), 0);
        DUE.due("openTicks", x.openTicks(0), 0);
        DUE.due("starved", x.starved(0), 1);
        DUE.due("relieved", x.relieved(0), 180 + 1848);
        DUE.due("wasted", x.wasted(0), 0);
        DUE.due("beats", x.beats(0), 3);
        DUE.due("air", x.air(0), 1997);
        DUE.due("basin", x.basin(), 1040);
        DUE.due("trace", x.trace(0, 0), 0);
    }

    private static void starvingAgain() {
        DUE.sentence("1. its starved ticks increase by 1");
        RamStation x = timed(99, 10, 20, 0, 500, 500);
        x.setInflow(0);
        x.start(0);
        int[] starved = {0, 0, 1, 1, 1, 2, 2, 3, 3, 4};
        for (int i = 0; i < starved.length; i++) {
            x.pass(1);
            DUE.due("starved after tick " + (i + 1), x.starved(0), starved[i]);
        }
        DUE.due("basin", x.basin(), 5000 - 1980 - 1980);
    }

    private static void startsAnewAfterStarving() {
        DUE.sentence("1. its speed becomes 0, its open ticks become 0");
        RamStation x = timed(99, 10, 20, 0, 500, 3);
        x.setInflow(0);
        x.start(0);
        x.pass(3);
        DUE.due("no slam in the starved tick", x.beats(0), 0);
        DUE.due("openTicks", x.openTicks(0), 0);
        x.pass(1);
        DUE.due("speed", x.speed(0), 990);
        DUE.due("openTicks", x.openTicks(0), 1);
        DUE.due("phase", x.phase(0), 1);
    }

    private static void wastedIsTheFlowBeforeTheGain() {
        DUE.sentence("2. the flow is added to the wasted liters");
        RamStation x = timed(20, 50, 5, 0, 30, 500);
        x.start(0);
        int[] wasted = {0, 20, 60, 120};
        for (int liters : wasted) {
            x.pass(1);
            DUE.due("wasted", x.wasted(0), liters);
        }
        DUE.due("relieved", x.relieved(0), 0);
        DUE.due("chamberWater", x.chamberWater(0), 0);
    }

    private static void gainDiscards() {
        DUE.sentence("2. s + 100 * (supply head) / (drive length)");
        int[][] headLengthSpeed = {{10, 400, 2}, {11, 400, 2}, {12, 400, 3}, {99, 10, 990}, {10, 300, 3},
            {67, 30, 223}};
        for (int[] row : headLengthSpeed) {
            RamStation x = timed(row[0], row[1], 1, 0, 500, 500);
            x.start(0);
            x.pass(1);
            DUE.due("speed", x.speed(0), row[2]);
            x.pass(1);
            DUE.due("speed", x.speed(0), Math.min(2 * row[2], 2000));
        }
    }

    // 1 * 316 * 316 is 99856, 1 * 317 * 317 is 100489; 10 * 100 * 100 is 100000; 79 * 590 * 590 is 27499900.
    private static void frictionDiscards() {
        DUE.sentence("2. - friction * s * s / 100000");
        int[][] headLengthFrictionSpeed = {{79, 25, 1, 632}, {73, 23, 1, 633}, {79, 25, 0, 632}, {10, 10, 10, 199},
            {10, 10, 9, 200}, {59, 10, 79, 590 + 590 - 274}, {99, 100, 100, 189}};
        for (int[] row : headLengthFrictionSpeed) {
            RamStation x = timed(row[0], row[1], 1, row[2], 500, 500);
            x.start(0);
            x.pass(2);
            DUE.due("speed with " + row[0] + " and a friction of " + row[2], x.speed(0), row[3]);
        }
    }

    private static void openTicksBeforeTheSlamRule() {
        DUE.sentence("2. then the open ticks increase by 1; then, if the slam rule holds, the pump slams");
        for (int setting = 1; setting <= 3; setting++) {
            RamStation x = timed(20, 50, 5, 0, 30, setting);
            x.start(0);
            x.pass(setting);
            DUE.due("beats", x.beats(0), 1);
            DUE.due("openTicks", x.openTicks(0), setting);
            DUE.due("interval", x.interval(0, 0), setting - 1);
        }
    }

    private static void slamTickOmitsStepThree() {
        DUE.sentence("2. step 3 is omitted");
        RamStation x = timed(20, 50, 5, 0, 30, 2);
        x.start(0);
        x.pass(2);
        DUE.due("phase", x.phase(0), 2);
        DUE.due("wasted", x.wasted(0), 20);
        DUE.due("chamberWater", x.chamberWater(0), 0);
        DUE.due("speed", x.speed(0), 80);
    }

    private static void headBelowTheSupplyHead() {
        DUE.sentence("3. d, or 0 if this is negative");
        RamStation x = slamAndPush(20, 10, 1, 500);
        DUE.due("chamberHead", x.chamberHead(0), 5);
        DUE.due("speed", x.speed(0), 199);
    }

    // The heads of 40 and 41 liters are 100 * 399 / 360 - 100 and 100 * 399 / 359 - 100.
    private static void headLikeTheSupplyHead() {
        DUE.sentence("3. d is the chamber head minus the supply head: 0");
        RamStation x = slamAndPush(10, 25, 10, 500);
        DUE.due("chamberWater", x.chamberWater(0), 40);
        DUE.due("chamberHead", x.chamberHead(0), 10);
        DUE.due("speed", x.speed(0), 40 - 1);
    }

    private static void headOneAboveTheSupplyHead() {
        DUE.sentence("3. d is the chamber head after this addition minus the supply head: 1");
        RamStation x = slamAndPush(10, 24, 10, 500);
        DUE.due("chamberWater", x.chamberWater(0), 41);
        DUE.due("chamberHead", x.chamberHead(0), 11);
        DUE.due("speed", x.speed(0), 41 - 1 - 100 / 24);
    }

    // Speed 2 at the slam; the chamber has no head.
    private static void speedOfOneStaysClosed() {
        DUE.sentence("3. if the speed would be less than 1: it would be 1");
        RamStation x = slamAndPush(10, 400, 1, 11);
        DUE.due("speed", x.speed(0), 1);
        DUE.due("phase", x.phase(0), 2);
        DUE.due("openTicks", x.openTicks(0), 1);
    }

    private static void speedOfZeroOpens() {
        DUE.sentence("3. if the speed would be less than 1: it would be 0");
        RamStation x = slamAndPush(10, 400, 1, 11);
        x.pass(1);
        DUE.due("speed", x.speed(0), 0);
        DUE.due("phase", x.phase(0), 1);
        DUE.due("openTicks", x.openTicks(0), 0);
        x.pass(1);
        DUE.due("beats", x.beats(0), 2);
        DUE.due("speed", x.speed(0), 2);
    }

    // 4 liters more than 41: a speed of 45 is lost by 1 + 100 * 2 / 22; a flow of 200 fills the chamber of 50.
    private static void speedBelowZeroBecomesZero() {
        DUE.sentence("3. if the speed would be less than 1, it becomes 0, the waste valve opens");
        RamStation x = slamAndPush(10, 22, 10, 500);
        DUE.due("speed", x.speed(0), 45 - 1 - 9);
        RamStation y = timed(10, 10, 20, 0, 500, 1);
        y.setChamber(0, 50, false);
        y.start(0);
        y.pass(2);
        DUE.due("speed", y.speed(0), 0);
        DUE.due("phase", y.phase(0), 1);
        DUE.due("openTicks", y.openTicks(0), 0);
        DUE.due("trace", y.trace(0, 0), 0);
        y.pass(1);
        DUE.due("speed", y.speed(0), 100);
    }

    private static void headLikeTheLift() {
        DUE.sentence("4. if the chamber head is greater than the lift: it is equal");
        RamStation x = slamAndPush(10, 24, 10, 11);
        DUE.due("chamberHead", x.chamberHead(0), 11);
        DUE.due("lifted", x.lifted(0), 0);
        DUE.due("chamberWater", x.chamberWater(0), 41);
    }

    // The head of 45 liters is 100 * 399 / 355 - 100.
    private static void headOneAboveTheLift() {
        DUE.sentence("4. 1 + (chamber head - lift) / 10: 1 above the lift");
        RamStation x = slamAndPush(10, 22, 10, 11);
        DUE.due("lifted", x.lifted(0), 1);
        DUE.due("tank", x.tank(0), 1);
        DUE.due("chamberWater", x.chamberWater(0), 44);
    }

    // The heads of 70 and 72 liters are 20 and 21.
    private static void headNineAndTenAboveTheLift() {
        DUE.sentence("4. 1 + (chamber head - lift) / 10: 9 and 10 above the lift");
        RamStation x = slamAndPush(10, 10, 7, 11);
        DUE.due("lifted of 70", x.lifted(0), 1);
        DUE.due("chamberWater", x.chamberWater(0), 69);
        RamStation y = slamAndPush(10, 11, 8, 11);
        DUE.due("lifted of 72", y.lifted(0), 2);
        DUE.due("chamberWater", y.chamberWater(0), 70);
    }

    // The chamber of 50 is filled with 45 liters, with a head of 880.
    private static int liftedOf45(int lift) {
        RamStation x = timed(10, 10, 20, 0, lift, 1);
        x.setChamber(0, 50, false);
        x.start(0);
        int delivered = x.pass(2);
        DUE.due("relieved", x.relieved(0), 200 - 45);
        DUE.due("lifted", x.lifted(0), delivered);
        DUE.due("tank", x.tank(0), delivered);
        DUE.due("chamberWater", x.chamberWater(0), 45 - delivered);
        return delivered;
    }

    private static void deliversAllItsWater() {
        DUE.sentence("4. min(chamber water, ..): all the water");
        DUE.due("1 + 869 / 10 are more than 45", liftedOf45(11), 45);
        DUE.due("1 + 450 / 10 are 46", liftedOf45(430), 45);
        DUE.due("1 + 440 / 10 are just 45", liftedOf45(440), 45);
    }

    private static void deliversAllButOneLiter() {
        DUE.sentence("4. min(chamber water, ..): all but 1 liter");
        DUE.due("1 + 439 / 10 are 44", liftedOf45(441), 44);
    }

    private static void emptyChamberDelivers() {
        DUE.sentence("4. if the chamber head is greater than the lift: not that of an empty chamber");
        RamStation x = timed(10, 10, 20, 0, 11, 1);
        x.setChamber(0, 50, false);
        x.start(0);
        x.pass(2);
        DUE.due("chamberWater", x.chamberWater(0), 0);
        DUE.due("chamberHead", x.chamberHead(0), 0);
        DUE.due("delivered", x.pass(1), 0);
        DUE.due("lifted", x.lifted(0), 45);
    }

    private static void deliversWithAnOpenValve() {
        DUE.sentence("4. also with an open valve, and only while the pump makes ticks");
        RamStation x = timed(99, 10, 20, 0, 100, 1);
        x.setChamber(0, 2000, false);
        x.start(0);
        DUE.due("delivered in two ticks", x.pass(2), 80);
        x.stop(0);
        DUE.due("delivered while it stands", x.pass(5), 0);
        DUE.due("chamberWater", x.chamberWater(0), 1720);
        x.setValve(0, 2, 500);
        x.start(0);
        DUE.due("delivered with an open valve", x.pass(1), 52);
        DUE.due("phase", x.phase(0), 1);
        DUE.due("chamberWater", x.chamberWater(0), 1668);
    }

    private static void openTicksStayUntilItOpens() {
        DUE.sentence("its open ticks stay as they are until it opens");
        RamStation x = timed(10, 400, 1, 0, 11, 3);
        x.start(0);
        int[] openTicks = {1, 2, 3, 3, 3, 3, 3, 3, 0, 1, 2, 3};
        int[] phases = {1, 1, 2, 2, 2, 2, 2, 2, 1, 1, 1, 2};
        for (int i = 0; i < openTicks.length; i++) {
            x.pass(1);
            DUE.due("openTicks after tick " + (i + 1), x.openTicks(0), openTicks[i]);
            DUE.due("phase after tick " + (i + 1), x.phase(0), phases[i]);
        }
        DUE.due("beats", x.beats(0), 2);
    }

    private static void intervalSinceTheStart() {
        DUE.sentence("minus the time at which the pump was started if it has not slammed since");
        RamStation x = timed(10, 400, 1, 0, 11, 4);
        x.pass(7);
        x.start(0);
        x.pass(3);
        DUE.due("no slam", x.interval(0, 0), RamStation.NONE);
        x.pass(1);
        DUE.due("slam at 10, start at 7", x.interval(0, 0), 3);
    }

    private static void intervalSinceThePreviousSlam() {
        DUE.sentence("the present time minus the time of the previous slam of this pump");
        RamStation x = timed(10, 400, 1, 0, 11, 1);
        x.addPump(10, 400, 1, 0, 11);
        x.setValve(1, 2, 1);
        x.start(0);
        x.pass(2);
        x.start(1);
        x.pass(2);
        DUE.due("slams at 0 and 3", x.interval(0, 0), 3);
        DUE.due("slam at 0, start at 0", x.interval(0, 1), 0);
        DUE.due("slam of the other pump at 2, start at 2", x.interval(1, 0), 0);
    }

    private static void intervalSinceTheLastStart() {
        DUE.sentence("since it was started the last time");
        RamStation x = timed(10, 400, 1, 0, 11, 2);
        x.start(0);
        x.pass(3);
        DUE.due("slam at 1, start at 0", x.interval(0, 0), 1);
        x.stop(0);
        x.pass(10);
        x.start(0);
        x.pass(2);
        DUE.due("slam at 14, start at 13, slam before at 1", x.interval(0, 0), 1);
        DUE.due("the one before stays", x.interval(0, 1), 1);
        x.pass(6);
        DUE.due("slam at 20, after that at 14", x.interval(0, 0), 6);
    }

    // Slams in the ticks 1, 4, 7 and so on.
    private static void airAtLeastTheLeastSpace() {
        DUE.sentence("without one it decreases by 1, but is at least the least space");
        RamStation x = timed(10, 400, 1, 0, 11, 1);
        x.setChamber(0, 69, false);
        x.start(0);
        x.pass(1);
        DUE.due("air", x.air(0), 68);
        x.pass(61 * 3);
        DUE.due("air", x.air(0), 7);
        x.pass(3);
        DUE.due("air", x.air(0), 6);
        x.pass(3);
        DUE.due("air", x.air(0), 6);
        x.pass(90);
        DUE.due("air", x.air(0), 6);
    }

    private static void airWithASnifterValve() {
        DUE.sentence("with a snifter valve it increases by 2, but is at most the volume");
        int[] volumes = {50, 51, 2000};
        for (int volume : volumes) {
            RamStation x = timed(10, 400, 1, 0, 11, 1);
            x.setChamber(0, volume, true);
            x.start(0);
            x.pass(1);
            DUE.due("air of " + volume, x.air(0), volume);
            x.pass(199);
            DUE.due("air of " + volume, x.air(0), volume);
            DUE.due("incidents", x.incidents(), 0);
        }
    }

    // The first interval is 0, all others are 3.
    private static void sixteenIntervals() {
        DUE.sentence("the intervals of a pump are the intervals of its 16 latest slams");
        RamStation x = timed(10, 400, 1, 0, 11, 1);
        x.start(0);
        x.pass(43);
        DUE.due("the first of 15", x.interval(0, 14), 0);
        DUE.due("no sixteenth", x.interval(0, 15), RamStation.NONE);
        x.pass(3);
        DUE.due("the first of 16", x.interval(0, 15), 0);
        DUE.due("the second of 16", x.interval(0, 14), 3);
        DUE.due("no seventeenth", x.interval(0, 16), RamStation.NONE);
        x.pass(3);
        DUE.due("the second of 17", x.interval(0, 15), 3);
        DUE.due("no seventeenth", x.interval(0, 16), RamStation.NONE);
        DUE.due("beats", x.beats(0), 17);
    }

    // The speed is 5 more in each tick.
    private static void thirtyTwoTraceNumbers() {
        DUE.sentence("the trace of a pump contains the speeds of its 32 latest ticks");
        RamStation x = timed(20, 400, 1, 0, 500, 500);
        x.start(0);
        x.pass(31);
        DUE.due("the first of 31", x.trace(0, 30), 5);
        DUE.due("no 32nd", x.trace(0, 31), RamStation.NONE);
        x.pass(1);
        DUE.due("the first of 32", x.trace(0, 31), 5);
        DUE.due("no 33rd", x.trace(0, 32), RamStation.NONE);
        x.pass(1);
        DUE.due("the second of 33", x.trace(0, 31), 10);
        DUE.due("no 33rd", x.trace(0, 32), RamStation.NONE);
        DUE.due("the latest: 165 - 256", x.trace(0, 0), -91);
        x.pass(200);
        for (int back = 0; back < 32; back++) {
            DUE.due("trace " + back, x.trace(0, back), (byte) (5 * (233 - back)));
        }
    }

    private static void traceBytes() {
        DUE.sentence("only the lowest 8 bits are kept, as a signed byte");
        int[][] headLengthSpeedByte = {{89, 70, 127, 127}, {64, 50, 128, -128}, {51, 20, 255, -1}, {64, 25, 256, 0},
            {96, 25, 384, -128}, {99, 10, 990, -34}, {10, 400, 2, 2}};
        for (int[] row : headLengthSpeedByte) {
            RamStation x = timed(row[0], row[1], 1, 0, 500, 500);
            x.start(0);
            x.pass(1);
            DUE.due("speed", x.speed(0), row[2]);
            DUE.due("trace of a speed of " + row[2], x.trace(0, 0), row[3]);
        }
        RamStation x = timed(99, 10, 1, 0, 500, 500);
        x.start(0);
        x.pass(3);
        DUE.due("trace of a speed of 2000", x.trace(0, 0), 2000 - 8 * 256);
        DUE.due("trace of a speed of 1980", x.trace(0, 1), 1980 - 8 * 256);
    }

    private static void traceOfAStarvedTick() {
        DUE.sentence("5. the speed is added to the trace of the pump: also of a starved tick");
        RamStation x = timed(99, 10, 20, 0, 500, 500);
        x.setInflow(0);
        x.start(0);
        x.pass(3);
        DUE.due("starved", x.starved(0), 1);
        DUE.due("trace", x.trace(0, 0), 0);
        DUE.due("trace of the tick before", x.trace(0, 1), 1980 - 8 * 256);
        DUE.due("the first", x.trace(0, 2), 990 - 4 * 256);
        DUE.due("no fourth", x.trace(0, 3), RamStation.NONE);
    }
}
