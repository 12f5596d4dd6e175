/** Promises 41 to 46: trials of a single pump. */
public final class TrialsTest {
    private static final Due DUE = new Due("TrialsTest");
    private static final int NONE = RamStation.NONE;

    public static void main(String[] args) {
        errors();
        changeNothing();
        ticksToSlam();
        ticksToSlamUpTo2000();
        deliveredAndDrawn();
        enoughWater();
        period();
        bestLength();
        greatestLength();
        bestSetting();
        greatestSetting();
        bestFromRest();
        allEqual();
        DUE.end();
    }

    private static RamStation withPump(int head, int length, int area, int friction, int lift) {
        RamStation x = new RamStation();
        x.addPump(head, length, area, friction, lift);
        return x;
    }

    private static void errors() {
        RamStation x = withPump(20, 50, 5, 0, 30);
        int[] wrong = {-1, 1, Integer.MAX_VALUE, Integer.MIN_VALUE};
        for (int pump : wrong) {
            int[] answers = {x.ticksToSlam(pump), x.deliveredIn(pump, 0), x.drawnIn(pump, 501), x.period(pump),
                x.bestLength(pump, 0), x.bestSetting(pump, 301)};
            for (int answer : answers) {
                DUE.due("no such pump", answer, RamStation.NO_SUCH_PUMP);
            }
        }
        int[] ticks = {Integer.MIN_VALUE, -1, 0, 501, Integer.MAX_VALUE};
        for (int bad : ticks) {
            DUE.due("deliveredIn " + bad, x.deliveredIn(0, bad), RamStation.BAD_VALUE);
            DUE.due("drawnIn " + bad, x.drawnIn(0, bad), RamStation.BAD_VALUE);
            DUE.due("bestLength " + bad, x.bestLength(0, bad), RamStation.BAD_VALUE);
            DUE.due("bestSetting " + bad, x.bestSetting(0, bad), RamStation.BAD_VALUE);
        }
        DUE.due("bestLength 301", x.bestLength(0, 301), RamStation.BAD_VALUE);
        DUE.due("bestSetting 301", x.bestSetting(0, 301), RamStation.BAD_VALUE);
    }

    private static int[] values(RamStation x) {
        return new int[] {x.time(), x.basin(), x.spilled(), x.incidents(), x.phase(0), x.speed(0), x.openTicks(0),
            x.chamberWater(0), x.air(0), x.beats(0), x.wasted(0), x.relieved(0), x.lifted(0), x.overflowed(0),
            x.starved(0), x.tank(0), x.interval(0, 0), x.trace(0, 0), x.trace(0, 31)};
    }

    private static void changeNothing() {
        RamStation x = withPump(20, 50, 5, 3, 30);
        x.start(0);
        x.pass(33);
        int[] before = values(x);
        x.ticksToSlam(0);
        x.deliveredIn(0, 500);
        x.drawnIn(0, 500);
        x.period(0);
        x.bestLength(0, 300);
        x.bestSetting(0, 300);
        int[] after = values(x);
        for (int i = 0; i < before.length; i++) {
            DUE.due("value " + i + " after trials", after[i], before[i]);
        }
        DUE.due("no acts", x.undo(), 2);
        x.stop(0);
        DUE.due("the setting is the old one", x.setValve(0, 0, 60), 60);
    }

    // Promise 41
    private static void ticksToSlam() {
        RamStation x = withPump(20, 50, 5, 0, 30);
        DUE.due("it need not run", x.ticksToSlam(0), 2);
        x.start(0);
        x.pass(1);
        DUE.due("from the present state", x.ticksToSlam(0), 1);
        x.pass(1);
        // Closed until tick 4 of the trial, then two ticks to the speed of 80.
        DUE.due("closed", x.ticksToSlam(0), 6);
        x.pass(6);
        DUE.due("it slams there", x.interval(0, 0), 6);
        // At a speed of 45 the friction takes the 2 that the head gives.
        RamStation y = withPump(10, 400, 1, 100, 11);
        DUE.due("never", y.ticksToSlam(0), NONE);
        DUE.due("no slam, no period", y.period(0), NONE);
        y.setValve(0, 0, 45);
        DUE.due("45 is reached", y.ticksToSlam(0) > 0 ? 1 : 0, 1);
    }

    // With little air a full chamber has no head, and the water slows down by 1 a tick only.
    private static void ticksToSlamUpTo2000() {
        RamStation x = withPump(99, 10, 1, 0, 500);
        x.setValve(0, 2, 3);
        x.setChamber(0, 50, false);
        x.setInflow(500);
        x.start(0);
        x.pass(200);
        x.pass(167);
        DUE.due("air", x.air(0), 9);
        DUE.due("speed", x.speed(0), 2000);
        DUE.due("closed", x.phase(0), 2);
        DUE.due("2003 ticks", x.ticksToSlam(0), NONE);
        x.pass(1);
        DUE.due("2002 ticks", x.ticksToSlam(0), NONE);
        x.pass(1);
        DUE.due("2001 ticks", x.ticksToSlam(0), NONE);
        x.pass(1);
        DUE.due("2000 ticks", x.ticksToSlam(0), 2000);
        x.pass(200);
        DUE.due("1800 ticks", x.ticksToSlam(0), 1800);
        DUE.due("speed", x.speed(0), 1797);
    }

    // Promises 42 and 43
    private static void deliveredAndDrawn() {
        RamStation x = withPump(20, 50, 5, 0, 30);
        int[] drawn = {0, 20, 60, 99, 134, 149, 149, 169};
        int[] delivered = {0, 0, 0, 0, 1, 3, 5, 7};
        for (int i = 0; i < drawn.length; i++) {
            DUE.due("drawnIn " + (i + 1), x.drawnIn(0, i + 1), drawn[i]);
            DUE.due("deliveredIn " + (i + 1), x.deliveredIn(0, i + 1), delivered[i]);
        }
        x.start(0);
        x.pass(4);
        DUE.due("drawn from the present state", x.drawnIn(0, 1), 35);
        DUE.due("delivered from the present state", x.deliveredIn(0, 2), 3);
        int most = x.deliveredIn(0, 500);
        int flow = x.drawnIn(0, 500);
        int basin = x.basin();
        int passed = x.pass(200) + x.pass(200) + x.pass(100);
        DUE.due("what the station delivers when its basin has enough", passed, most);
        DUE.due("nothing starved", x.starved(0), 0);
        DUE.due("what it draws", basin + 500 * 100 - x.basin() - x.spilled(), flow);
    }

    private static void enoughWater() {
        RamStation x = withPump(99, 10, 20, 0, 500);
        x.setValve(0, 2, 500);
        x.setInflow(0);
        DUE.due("990, 1980, then 2000 of speed", x.drawnIn(0, 500), 1980 + 3960 + 497 * 4000);
        x.start(0);
        x.pass(10);
        DUE.due("the station's pump starves", x.starved(0) > 0 ? 1 : 0, 1);
        DUE.due("a trial's never", x.drawnIn(0, 100) > 200000 ? 1 : 0, 1);
    }

    // Promise 44: a beat of three ticks that moves no water, so only the air differs.
    private static void period() {
        RamStation x = withPump(10, 400, 1, 0, 11);
        x.setValve(0, 2, 1);
        x.setChamber(0, 2000, true);
        DUE.due("with a snifter valve", x.period(0), 3);
        x.setChamber(0, 400, false);
        DUE.due("after 360 slams the air is gone", x.period(0), 3);
        x.setChamber(0, 2000, false);
        DUE.due("1800 slams are not in 2000 ticks", x.period(0), NONE);
        periodNearTheEnd();
        periodOfThreeBeats();
        RamStation y = withPump(20, 50, 5, 0, 30);
        y.start(0);
        y.pass(124);
        DUE.due("many beats, from now", y.period(0), 82);
        y.stop(0);
        DUE.due("from rest it comes to the same", y.period(0), 82);
    }

    // Slams at the ticks 1, 4 .. 1999; of these 667 the last two are the first alike, or none.
    private static void periodNearTheEnd() {
        RamStation x = withPump(10, 400, 1, 0, 11);
        x.setValve(0, 2, 1);
        x.setChamber(0, 739, false);
        DUE.due("the least space of 739 is reached in slam 666, the next is like it", x.period(0), 3);
        x.setChamber(0, 741, false);
        DUE.due("in slam 667, the last", x.period(0), NONE);
    }

    // The intervals are 15, 15 and 16 in turn.
    private static void periodOfThreeBeats() {
        RamStation x = withPump(69, 350, 1, 0, 70);
        x.setChamber(0, 400, true);
        x.setValve(0, 1, 60);
        DUE.due("period", x.period(0), 46);
        x.start(0);
        x.pass(200);
        DUE.due("period", x.period(0), 46);
        for (int i = 0; i < 6; i++) {
            DUE.due("interval", x.interval(0, i), x.interval(0, i + 3));
        }
        DUE.due("three intervals", x.interval(0, 0) + x.interval(0, 1) + x.interval(0, 2), 46);
    }

    // Promise 45: each length in a station of its own, at rest.
    private static void bestLength() {
        int[][] pumps = {{20, 50, 5, 0, 30}, {60, 300, 9, 40, 200}, {99, 10, 20, 5, 300}, {10, 100, 2, 90, 12},
            {45, 77, 12, 1, 60}};
        int[] ticks = {1, 2, 13, 100, 300};
        for (int[] p : pumps) {
            for (int n : ticks) {
                int best = 0;
                int most = -1;
                for (int length = 10; length <= 400; length += 10) {
                    int delivered = withPump(p[0], length, p[2], p[3], p[4]).deliveredIn(0, n);
                    if (delivered > most) {
                        most = delivered;
                        best = length;
                    }
                }
                DUE.due("bestLength of a lift of " + p[4] + " in " + n,
                        withPump(p[0], p[1], p[2], p[3], p[4]).bestLength(0, n), best);
            }
        }
    }

    // With a timed valve the water has too much speed in all but the longest pipe.
    private static void greatestLength() {
        RamStation x = withPump(17, 50, 16, 0, 18);
        x.setValve(0, 2, 40);
        DUE.due("bestLength", x.bestLength(0, 300), 400);
        int own = x.deliveredIn(0, 300);
        RamStation longest = withPump(17, 400, 16, 0, 18);
        longest.setValve(0, 2, 40);
        DUE.due("the longest delivers more", longest.deliveredIn(0, 300) > own ? 1 : 0, 1);
    }

    // Promise 46
    private static void bestSetting() {
        int[][] pumps = {{20, 50, 5, 0, 30}, {60, 300, 9, 40, 200}, {99, 40, 20, 5, 300}, {15, 35, 2, 30, 16}};
        int[] ticks = {1, 7, 60, 300};
        for (int[] p : pumps) {
            for (int kind = 0; kind <= 2; kind++) {
                for (int n : ticks) {
                    RamStation x = withPump(p[0], p[1], p[2], p[3], p[4]);
                    int best = 0;
                    int most = -1;
                    for (int setting = 10; setting <= 500; setting += 10) {
                        x.setValve(0, kind, setting);
                        int delivered = x.deliveredIn(0, n);
                        if (delivered > most) {
                            most = delivered;
                            best = setting;
                        }
                    }
                    DUE.due("bestSetting of kind " + kind + ", lift " + p[4] + " in " + n, x.bestSetting(0, n), best);
                }
            }
        }
    }

    private static void greatestSetting() {
        RamStation x = withPump(20, 200, 1, 0, 41);
        x.setChamber(0, 400, true);
        DUE.due("bestSetting", x.bestSetting(0, 300), 500);
        x.setValve(0, 0, 500);
        DUE.due("delivers", x.deliveredIn(0, 300), 1057);
        x.setValve(0, 0, 490);
        DUE.due("a lower one less", x.deliveredIn(0, 300), 1052);
    }

    // A trial from rest keeps the water and the air of the chamber, but not the speed.
    private static void bestFromRest() {
        RamStation x = withPump(60, 120, 9, 10, 200);
        x.setInflow(500);
        x.start(0);
        for (int i = 0; i < 60; i++) {
            x.pass(1);
            int length = x.bestLength(0, 9);
            int setting = x.bestSetting(0, 9);
            x.stop(0);
            DUE.due("bestLength, stopped", x.bestLength(0, 9), length);
            DUE.due("bestSetting, stopped", x.bestSetting(0, 9), setting);
            x.undo();
        }
    }

    private static void allEqual() {
        RamStation x = withPump(20, 50, 5, 0, 500);
        DUE.due("nothing is delivered: the shortest", x.bestLength(0, 1), 10);
        DUE.due("nothing is delivered: the least", x.bestSetting(0, 1), 10);
    }
}
