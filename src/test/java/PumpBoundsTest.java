/** The bounds of 'Terms': a pump, its valve, chamber, tank and counters. One method for each sentence. */
public final class PumpBoundsTest {
    private static final Due DUE = new Due("PumpBoundsTest");

    public static void main(String[] args) {
        notRunningAtFirst();
        speedGreatest();
        speedJustGreatest();
        valveAtFirst();
        weightedValve();
        springLoadedValve();
        springLoadedValveDiscards();
        timedValve();
        greatestSettingOfEachKind();
        chamberAtFirst();
        leastSpaceDiscards();
        chamberJustFull();
        chamberOneLiterTooFull();
        chamberStaysFull();
        headNotNegative();
        headOfZero();
        headDiscards();
        headWithLittleAir();
        tankAtFirst();
        tankJustFull();
        tankOneLiterTooFull();
        fullTankIsEmptied();
        countersAtFirst();
        valuesNeverChange();
        DUE.end();
    }

    /** A pump whose valve slams in its first tick, at a speed of 100 * head / length. */
    private static RamStation slammingAtOnce(int head, int length, int area, int lift) {
        RamStation x = new RamStation();
        x.addPump(head, length, area, 0, lift);
        x.setValve(0, 2, 1);
        return x;
    }

    private static void notRunningAtFirst() {
        DUE.sentence("at first it does not run");
        RamStation x = new RamStation();
        x.addPump(20, 50, 5, 0, 30);
        DUE.due("phase", x.phase(0), 0);
        DUE.due("stop", x.stop(0), RamStation.NOT_POSSIBLE);
        DUE.due("speed", x.speed(0), 0);
        x.pass(1);
        DUE.due("phase", x.phase(0), 0);
        DUE.due("start", x.start(0), 1);
        DUE.due("its valve is open", x.phase(0), 1);
    }

    private static void speedGreatest() {
        DUE.sentence("a speed, 0 to 2000: it is cut");
        RamStation x = new RamStation();
        x.addPump(99, 10, 1, 0, 500);
        x.setValve(0, 2, 500);
        x.start(0);
        int[] speeds = {0, 990, 1980, 2000, 2000, 2000};
        for (int speed : speeds) {
            DUE.due("speed", x.speed(0), speed);
            x.pass(1);
        }
    }

    private static void speedJustGreatest() {
        DUE.sentence("a speed, 0 to 2000: 2000 is reached, not passed");
        RamStation x = new RamStation();
        x.addPump(50, 10, 1, 0, 500);
        x.setValve(0, 2, 500);
        x.start(0);
        x.pass(3);
        DUE.due("speed", x.speed(0), 1500);
        x.pass(1);
        DUE.due("speed", x.speed(0), 2000);
        x.pass(1);
        DUE.due("speed", x.speed(0), 2000);
    }

    private static void valveAtFirst() {
        DUE.sentence("at first the kind is 0 and the setting is 60");
        RamStation x = new RamStation();
        x.addPump(30, 100, 1, 0, 31);
        DUE.due("a speed of 60 in tick 2", x.ticksToSlam(0), 2);
        DUE.due("setting", x.setValve(0, 0, 60), 60);
        DUE.due("the same", x.ticksToSlam(0), 2);
        RamStation y = new RamStation();
        y.addPump(59, 100, 1, 0, 60);
        DUE.due("a speed of 59 is not enough", y.ticksToSlam(0), 2);
        RamStation z = new RamStation();
        z.addPump(60, 100, 1, 0, 61);
        DUE.due("a speed of 60 is", z.ticksToSlam(0), 1);
        z.start(0);
        DUE.due("its valve is open", z.phase(0), 1);
        DUE.due("open ticks", z.openTicks(0), 0);
    }

    // The speed is 37 in tick 1 and 74 in tick 2.
    private static void slamsIn(int kind, int setting, int tick) {
        RamStation x = new RamStation();
        x.addPump(37, 100, 1, 0, 500);
        DUE.due("setValve " + setting, x.setValve(0, kind, setting), 60);
        DUE.due("ticksToSlam with " + setting, x.ticksToSlam(0), tick);
        x.start(0);
        for (int i = 1; i < tick; i++) {
            x.pass(1);
        }
        DUE.due("beats in the ticks before with " + setting, x.beats(0), 0);
        DUE.due("phase in the ticks before with " + setting, x.phase(0), 1);
        x.pass(1);
        DUE.due("beats with " + setting, x.beats(0), 1);
        DUE.due("phase with " + setting, x.phase(0), 2);
    }

    private static void weightedValve() {
        DUE.sentence("kind 0 if the speed is at least the setting");
        slamsIn(0, 1, 1);
        slamsIn(0, 36, 1);
        slamsIn(0, 37, 1);
        slamsIn(0, 38, 2);
        slamsIn(0, 74, 2);
        slamsIn(0, 75, 3);
    }

    // 37 * 37 is 1369, 74 * 74 is 5476, 111 * 111 is 12321.
    private static void springLoadedValve() {
        DUE.sentence("kind 1 if speed * speed / 100 is at least the setting");
        slamsIn(1, 1, 1);
        slamsIn(1, 13, 1);
        slamsIn(1, 14, 2);
        slamsIn(1, 54, 2);
        slamsIn(1, 55, 3);
        slamsIn(1, 123, 3);
        slamsIn(1, 124, 4);
    }

    private static void springLoadedValveDiscards() {
        DUE.sentence("the remainder of a division is discarded: 1 * 99 / 100");
        RamStation x = new RamStation();
        x.addPump(36, 400, 1, 0, 500);
        x.setValve(0, 1, 1);
        DUE.due("9 * 9 / 100 is 0, 18 * 18 / 100 is 3", x.ticksToSlam(0), 2);
        RamStation y = new RamStation();
        y.addPump(40, 400, 1, 0, 500);
        y.setValve(0, 1, 1);
        DUE.due("10 * 10 / 100 is 1", y.ticksToSlam(0), 1);
    }

    private static void timedValve() {
        DUE.sentence("kind 2 if the open ticks are at least the setting");
        slamsIn(2, 1, 1);
        slamsIn(2, 2, 2);
        slamsIn(2, 3, 3);
    }

    private static void greatestSettingOfEachKind() {
        DUE.sentence("a setting, 1 to 500");
        RamStation x = new RamStation();
        x.addPump(50, 10, 1, 0, 500);
        x.setValve(0, 0, 500);
        DUE.due("a speed of 500", x.ticksToSlam(0), 1);
        RamStation y = new RamStation();
        y.addPump(56, 25, 1, 0, 500);
        y.setValve(0, 1, 500);
        DUE.due("224 * 224 / 100 is 501", y.ticksToSlam(0), 1);
        RamStation z = new RamStation();
        z.addPump(67, 30, 1, 0, 500);
        z.setValve(0, 1, 500);
        DUE.due("223 * 223 / 100 is 497", z.ticksToSlam(0), 2);
        z.setValve(0, 1, 497);
        DUE.due("497 is enough for 497", z.ticksToSlam(0), 1);
        z.setValve(0, 2, 500);
        DUE.due("500 open ticks", z.ticksToSlam(0), 500);
    }

    // A flow of 990 * 20 / 10 liters: the chamber takes 360 of them.
    private static void chamberAtFirst() {
        DUE.sentence("a volume at first 400, no snifter valve, no chamber water, air of the volume");
        RamStation x = slammingAtOnce(99, 10, 20, 500);
        DUE.due("water", x.chamberWater(0), 0);
        DUE.due("air", x.air(0), 400);
        DUE.due("head", x.chamberHead(0), 0);
        x.start(0);
        x.pass(1);
        DUE.due("air after a slam without a snifter valve", x.air(0), 399);
        x.pass(1);
        DUE.due("relieved", x.relieved(0), 1980 - 360);
    }

    private static void leastSpaceDiscards() {
        DUE.sentence("the least space of a chamber is volume / 10");
        int[][] volumeAndSpace = {{50, 5}, {51, 5}, {59, 5}, {60, 6}, {99, 9}, {100, 10}, {1999, 199}, {2000, 200}};
        for (int[] pair : volumeAndSpace) {
            RamStation x = slammingAtOnce(99, 10, 20, 500);
            x.setChamber(0, pair[0], false);
            x.start(0);
            x.pass(2);
            DUE.due("relieved with " + pair[0], x.relieved(0), 1980 - (pair[0] - pair[1]));
        }
    }

    // With an area of 10 the flow is the speed, and here the speed is the head.
    private static RamStation intoChamberOf50(int flow) {
        RamStation x = slammingAtOnce(flow, 100, 10, 500);
        x.setChamber(0, 50, false);
        x.start(0);
        x.pass(2);
        return x;
    }

    private static void chamberJustFull() {
        DUE.sentence("as much of the flow as the chamber can take: all of it, it is just full");
        RamStation x = intoChamberOf50(45);
        DUE.due("relieved", x.relieved(0), 0);
        DUE.due("incidents", x.incidents(), 0);
        DUE.due("a head of 100 * 49 / 5 - 100 lifts 1 + 380 / 10", x.lifted(0), 39);
        DUE.due("water", x.chamberWater(0), 45 - 39);
    }

    private static void chamberOneLiterTooFull() {
        DUE.sentence("the chamber water is never more than the volume minus the least space");
        RamStation x = intoChamberOf50(46);
        DUE.due("relieved", x.relieved(0), 1);
        DUE.due("incidents", x.incidents(), 1);
        DUE.due("kind", x.incidentKind(0), 2);
        DUE.due("lifted", x.lifted(0), 39);
        DUE.due("water", x.chamberWater(0), 45 - 39);
        DUE.due("one less than what is just full", intoChamberOf50(44).relieved(0), 0);
    }

    // Little by little the air is lost, so that even a full chamber has no head.
    private static void chamberStaysFull() {
        DUE.sentence("the chamber water is never more than the volume minus the least space: for long");
        RamStation x = new RamStation();
        x.addPump(15, 20, 8, 5, 16);
        x.setChamber(0, 69, false);
        x.start(0);
        for (int i = 0; i < 5; i++) {
            x.pass(200);
        }
        int full = 0;
        for (int i = 0; i < 100; i++) {
            x.pass(1);
            DUE.due("at most 69 - 6", x.chamberWater(0) <= 63);
            full += x.chamberWater(0) == 63 ? 1 : 0;
        }
        DUE.due("times full", full, 100);
        DUE.due("air", x.air(0), 6);
        DUE.due("head of 100 * 6 / 6 - 100", x.chamberHead(0), 0);
        DUE.due("relieved", x.relieved(0) > 100);
    }

    // An area of 1 and a speed of 10 * liters: the chamber of 400 has 399 of air then.
    private static int headWith(int supplyHead, int length, int liters) {
        RamStation x = slammingAtOnce(supplyHead, length, 1, 500);
        x.start(0);
        x.pass(2);
        DUE.due("water", x.chamberWater(0), liters);
        DUE.due("air", x.air(0), 399);
        return x.chamberHead(0);
    }

    private static void headNotNegative() {
        DUE.sentence("or 0 if this is negative");
        RamStation x = slammingAtOnce(10, 400, 1, 11);
        x.setChamber(0, 50, false);
        x.start(0);
        x.pass(100);
        DUE.due("air", x.air(0), 16);
        DUE.due("100 * 16 / 50 - 100 would be -68", x.chamberHead(0), 0);
        DUE.due("100 * 399 / 400 - 100 would be -1", headWith(10, 400, 0), 0);
    }

    private static void headOfZero() {
        DUE.sentence("the chamber head is 100 * air / (volume - chamber water) - 100: just 0");
        DUE.due("100 * 399 / 399 - 100", headWith(10, 100, 1), 0);
    }

    private static void headDiscards() {
        DUE.sentence("the chamber head is 100 * air / (volume - chamber water) - 100: the remainder is discarded");
        DUE.due("100 * 399 / 396 - 100, with a remainder of 300", headWith(20, 50, 4), 0);
        DUE.due("100 * 399 / 395 - 100, with a remainder of 5", headWith(25, 50, 5), 1);
    }

    // The chamber of 50 has 5 liters of air after 45 slams; then it is filled to 45 liters.
    private static void headWithLittleAir() {
        DUE.sentence("the chamber head of the least air in the least space is 0");
        RamStation x = slammingAtOnce(10, 400, 1, 11);
        x.setChamber(0, 50, false);
        x.start(0);
        x.pass(135);
        DUE.due("air", x.air(0), 5);
        x.stop(0);
        x.setValve(0, 0, 10);
        x.start(0);
        for (int i = 0; i < 4; i++) {
            x.pass(200);
        }
        DUE.due("air", x.air(0), 5);
        DUE.due("water", x.chamberWater(0), 45);
        DUE.due("head", x.chamberHead(0), 0);
        DUE.due("lifted", x.lifted(0), 0);
    }

    private static void tankAtFirst() {
        DUE.sentence("a tank is empty at first");
        RamStation x = new RamStation();
        x.addPump(20, 50, 5, 0, 30);
        DUE.due("tank", x.tank(0), 0);
        DUE.due("emptyTank", x.emptyTank(0), RamStation.NOT_POSSIBLE);
    }

    private static RamStation delivering(int head, int length, int area, int lift, int ticks) {
        RamStation x = new RamStation();
        x.addPump(head, length, area, 0, lift);
        x.setChamber(0, 400, true);
        x.setInflow(500);
        x.start(0);
        for (int left = ticks; left > 0; left -= 200) {
            x.pass(Math.min(left, 200));
        }
        DUE.due("starved", x.starved(0), 0);
        DUE.due("relieved", x.relieved(0), 0);
        return x;
    }

    private static void tankJustFull() {
        DUE.sentence("a tank holds at most 30000 liters: 30000 are allowed");
        RamStation x = delivering(20, 80, 8, 70, 2013);
        DUE.due("tank", x.tank(0) < 30000);
        int left = 30000 - x.tank(0);
        DUE.due("delivered in the next tick", x.pass(1), left);
        DUE.due("tank", x.tank(0), 30000);
        DUE.due("lifted", x.lifted(0), 30000);
        DUE.due("overflowed", x.overflowed(0), 0);
        DUE.due("incidents", x.incidents(), 0);
        int more = 0;
        for (int i = 0; i < 20 && more == 0; i++) {
            more = x.pass(1);
        }
        DUE.due("more is delivered", more > 0);
        DUE.due("tank", x.tank(0), 30000);
        DUE.due("overflowed", x.overflowed(0), more);
        DUE.due("lifted", x.lifted(0), 30000 + more);
        DUE.due("incidents", x.incidents(), 1);
    }

    private static void tankOneLiterTooFull() {
        DUE.sentence("more than 30000 liters: it holds 30000, the rest is overflowed and remains lifted");
        RamStation x = delivering(20, 90, 18, 30, 1024);
        DUE.due("overflowed", x.overflowed(0), 0);
        DUE.due("incidents", x.incidents(), 0);
        int left = 30000 - x.tank(0);
        DUE.due("left", left > 0);
        DUE.due("delivered in the next tick", x.pass(1), left + 1);
        DUE.due("tank", x.tank(0), 30000);
        DUE.due("overflowed", x.overflowed(0), 1);
        DUE.due("lifted", x.lifted(0), 30001);
        DUE.due("incidents", x.incidents(), 1);
        DUE.due("kind", x.incidentKind(0), 3);
        DUE.due("time", x.incidentTime(0), 1024);
    }

    private static void fullTankIsEmptied() {
        DUE.sentence("emptyTank returns the water that the tank contained: a full one");
        RamStation x = delivering(20, 90, 18, 30, 1200);
        int lifted = x.lifted(0);
        int overflowed = x.overflowed(0);
        DUE.due("overflowed", overflowed, lifted - 30000);
        DUE.due("emptyTank", x.emptyTank(0), 30000);
        DUE.due("tank", x.tank(0), 0);
        DUE.due("lifted stays", x.lifted(0), lifted);
        DUE.due("overflowed stays", x.overflowed(0), overflowed);
        DUE.due("again", x.emptyTank(0), RamStation.NOT_POSSIBLE);
    }

    private static void countersAtFirst() {
        DUE.sentence("the following counters, all 0 at first");
        RamStation x = new RamStation();
        x.addPump(20, 50, 5, 0, 30);
        int[] counters = {x.beats(0), x.wasted(0), x.relieved(0), x.lifted(0), x.overflowed(0), x.starved(0)};
        for (int i = 0; i < counters.length; i++) {
            DUE.due("counter " + i, counters[i], 0);
        }
    }

    private static void valuesNeverChange() {
        DUE.sentence("a supply head, a drive length, a pipe area, a friction and a lift, which never change");
        RamStation x = new RamStation();
        x.addPump(60, 300, 9, 40, 200);
        int drawn = x.drawnIn(0, 500);
        int delivered = x.deliveredIn(0, 500);
        x.bestLength(0, 300);
        x.bestSetting(0, 300);
        x.period(0);
        DUE.due("drawn after trials", x.drawnIn(0, 500), drawn);
        x.start(0);
        x.pass(200);
        x.stop(0);
        x.setChamber(0, 2000, true);
        x.setChamber(0, 400, false);
        x.setValve(0, 1, 9);
        x.setValve(0, 0, 60);
        DUE.due("drawn in the end", x.drawnIn(0, 500), drawn);
        DUE.due("delivered in the end", x.deliveredIn(0, 500), delivered);
    }
}
