import java.util.Arrays;

/** The bounds of 'Terms': trials, and of the promises 41 to 46. One method for each sentence. */
public final class TrialBoundsTest {
    private static final Due DUE = new Due("TrialBoundsTest");
    private static final int NONE = RamStation.NONE;

    public static void main(String[] args) {
        runsThoughThePumpDoesNot();
        runsAlone();
        enoughWater();
        beginsInThePresentState();
        beginsWithAClosedValve();
        fromRest();
        fromRestWithThePresentChamber();
        slamInTheFirstTick();
        slamInTick2000();
        slamInTick2001();
        neverASlam();
        deliveredInOneAndInMore();
        deliveredIn500();
        deliveredIntoAFullTank();
        drawnInOneAndInMore();
        drawnIn500();
        periodOfTheFirstTwoSlams();
        periodInTick2000();
        periodInTick2001();
        periodOfTheOnlyTwoSlams();
        slamsThatDifferByTheirWater();
        slamsThatDifferByTheirAir();
        periodAsWatched();
        periodWithTheLastSlamAlone();
        periodOfNoSlam();
        equalLengths();
        leastLength();
        greatestLength();
        otherLengths();
        equalSettings();
        leastSetting();
        greatestSetting();
        presentKind();
        DUE.end();
    }

    private static RamStation timed(int head, int length, int area, int lift, int ticks) {
        RamStation x = new RamStation();
        x.addPump(head, length, area, 0, lift);
        x.setValve(0, 2, ticks);
        return x;
    }

    /** It slams in every other tick; it delivers 80 liters in the ticks 2, 4, 6 and 52 in the ticks 3, 5. */
    private static RamStation strong() {
        RamStation x = timed(99, 10, 20, 100, 1);
        x.setChamber(0, 2000, false);
        return x;
    }

    /** It slams in the ticks 1, 4, 7 and so on, and moves no water. */
    private static RamStation weak(int volume) {
        RamStation x = timed(10, 400, 1, 11, 1);
        x.setChamber(0, volume, false);
        return x;
    }

    private static void runsThoughThePumpDoesNot() {
        DUE.sentence("the copy runs, whether the pump runs or not");
        RamStation x = strong();
        DUE.due("phase", x.phase(0), 0);
        DUE.due("ticksToSlam", x.ticksToSlam(0), 1);
        DUE.due("deliveredIn 6", x.deliveredIn(0, 6), 344);
        DUE.due("drawnIn 6", x.drawnIn(0, 6), 5940);
        x.start(0);
        DUE.due("ticksToSlam", x.ticksToSlam(0), 1);
        DUE.due("deliveredIn 6", x.deliveredIn(0, 6), 344);
        DUE.due("drawnIn 6", x.drawnIn(0, 6), 5940);
    }

    private static void runsAlone() {
        DUE.sentence("it makes one tick after the other, alone");
        RamStation x = strong();
        x.addPump(99, 10, 20, 0, 100);
        x.start(0);
        x.start(1);
        DUE.due("drawnIn of pump 1", x.drawnIn(1, 2), 1980);
        DUE.due("deliveredIn of pump 0", x.deliveredIn(0, 6), 344);
    }

    private static void enoughWater() {
        DUE.sentence("with a basin that always contains enough water");
        RamStation x = timed(99, 10, 10, 500, 500);
        x.setInflow(197);
        x.pass(10);
        x.setInflow(0);
        x.start(0);
        x.pass(5);
        DUE.due("basin", x.basin(), 0);
        DUE.due("drawnIn 1", x.drawnIn(0, 1), 2000);
        DUE.due("drawnIn 495, to the slam", x.drawnIn(0, 495), 495 * 2000);
        DUE.due("ticksToSlam", x.ticksToSlam(0), 495);
        RamStation y = timed(99, 10, 20, 500, 500);
        DUE.due("the greatest flow there is, 500 ticks long", y.drawnIn(0, 500), 1980 + 3960 + 497 * 4000);
        DUE.due("500 open ticks", y.ticksToSlam(0), 500);
    }

    private static void beginsInThePresentState() {
        DUE.sentence("the copy begins in the present state of the pump");
        RamStation x = timed(20, 50, 5, 30, 5);
        DUE.due("ticksToSlam", x.ticksToSlam(0), 5);
        x.start(0);
        for (int tick = 1; tick < 5; tick++) {
            x.pass(1);
            DUE.due("ticksToSlam after " + tick, x.ticksToSlam(0), 5 - tick);
            DUE.due("drawnIn after " + tick, x.drawnIn(0, 1), 20 * tick);
        }
    }

    private static void beginsWithAClosedValve() {
        DUE.sentence("the copy begins in the present state of the pump: closed");
        RamStation x = weak(400);
        x.start(0);
        x.pass(1);
        DUE.due("phase", x.phase(0), 2);
        DUE.due("it opens after two ticks", x.ticksToSlam(0), 3);
        RamStation y = strong();
        y.start(0);
        y.pass(1);
        DUE.due("phase", y.phase(0), 2);
        DUE.due("deliveredIn 1", y.deliveredIn(0, 1), 80);
    }

    // From the closed state 80 liters would be delivered in the first tick, with each length.
    private static void fromRest() {
        DUE.sentence("a trial from rest begins with the speed 0, the waste valve open and 0 open ticks");
        RamStation x = timed(60, 20, 10, 70, 5);
        x.setChamber(0, 400, true);
        x.setInflow(500);
        DUE.due("bestLength", x.bestLength(0, 20), 110);
        x.start(0);
        x.pass(4);
        DUE.due("open, 4 open ticks, no chamber water yet", x.openTicks(0), 4);
        DUE.due("bestLength", x.bestLength(0, 20), 110);
        x.pass(1);
        DUE.due("closed", x.phase(0), 2);
        DUE.due("bestLength", x.bestLength(0, 20), 110);
        DUE.due("bestSetting", x.bestSetting(0, 20), freshBestSetting());
    }

    private static int freshBestSetting() {
        RamStation x = timed(60, 20, 10, 70, 5);
        x.setChamber(0, 400, true);
        return x.bestSetting(0, 20);
    }

    private static void fromRestWithThePresentChamber() {
        DUE.sentence("the rest of its state is the present state of the pump");
        RamStation x = timed(60, 20, 10, 70, 5);
        x.setChamber(0, 400, true);
        x.setInflow(500);
        DUE.due("bestLength without chamber water", x.bestLength(0, 20), 110);
        x.start(0);
        x.pass(60);
        DUE.due("bestLength", x.bestLength(0, 20), 10);
        x.stop(0);
        DUE.due("chamberWater", x.chamberWater(0), 166);
        DUE.due("bestLength", x.bestLength(0, 20), 10);
        RamStation y = new RamStation();
        y.addPump(20, 40, 10, 0, 30);
        y.setChamber(0, 400, true);
        y.setInflow(500);
        DUE.due("bestSetting without chamber water", y.bestSetting(0, 20), 160);
        y.start(0);
        y.pass(40);
        DUE.due("chamberWater", y.chamberWater(0), 284);
        DUE.due("bestSetting", y.bestSetting(0, 20), 110);
    }

    private static void slamInTheFirstTick() {
        DUE.sentence("the number of the tick of the trial, from 1");
        DUE.due("tick 1", weak(400).ticksToSlam(0), 1);
        DUE.due("tick 2", timed(10, 400, 1, 11, 2).ticksToSlam(0), 2);
    }

    // The full chamber has no head any more, and the closed pump loses 1 of its speed of 2000 a tick;
    // at a speed of 0 the valve opens, and it slams three ticks later.
    private static RamStation longClosed(int ticks) {
        RamStation x = timed(99, 10, 1, 500, 3);
        x.setChamber(0, 50, false);
        x.setInflow(500);
        x.start(0);
        x.pass(200);
        x.pass(167);
        DUE.due("speed", x.speed(0), 2000);
        DUE.due("phase", x.phase(0), 2);
        if (ticks > 0) {
            x.pass(ticks);
        }
        return x;
    }

    private static void slamInTick2000() {
        DUE.sentence("NONE if no slam happens in 2000 ticks: it happens in tick 2000");
        RamStation x = longClosed(3);
        DUE.due("speed", x.speed(0), 1997);
        DUE.due("ticksToSlam", x.ticksToSlam(0), 2000);
        x.pass(1);
        DUE.due("ticksToSlam", x.ticksToSlam(0), 1999);
    }

    private static void slamInTick2001() {
        DUE.sentence("NONE if no slam happens in 2000 ticks: it happens in tick 2001");
        RamStation x = longClosed(2);
        DUE.due("speed", x.speed(0), 1998);
        DUE.due("ticksToSlam", x.ticksToSlam(0), NONE);
        DUE.due("ticksToSlam two ticks earlier", longClosed(0).ticksToSlam(0), NONE);
    }

    // At a speed of 45 a friction of 100 takes the 2 that the head gives.
    private static void neverASlam() {
        DUE.sentence("NONE if no slam happens in 2000 ticks: none at all");
        RamStation x = new RamStation();
        x.addPump(10, 400, 1, 100, 11);
        DUE.due("a setting of 60", x.ticksToSlam(0), NONE);
        x.setValve(0, 0, 46);
        DUE.due("46 is not reached", x.ticksToSlam(0), NONE);
        x.setValve(0, 0, 45);
        DUE.due("45 is", x.ticksToSlam(0) > 0);
    }

    private static void deliveredInOneAndInMore() {
        DUE.sentence("the liters that are delivered in the first ticks of the trial, as many as ticks");
        RamStation x = strong();
        int[] delivered = {0, 80, 132, 212, 264, 344};
        for (int ticks = 1; ticks <= delivered.length; ticks++) {
            DUE.due("deliveredIn " + ticks, x.deliveredIn(0, ticks), delivered[ticks - 1]);
        }
        x.start(0);
        x.pass(2);
        DUE.due("deliveredIn 1 from now", x.deliveredIn(0, 1), 52);
    }

    private static void deliveredIn500() {
        DUE.sentence("the liters that are delivered in 500 ticks");
        RamStation x = new RamStation();
        x.addPump(20, 50, 5, 0, 30);
        x.start(0);
        int in499 = x.deliveredIn(0, 499);
        int in500 = x.deliveredIn(0, 500);
        x.pass(200);
        x.pass(200);
        x.pass(99);
        DUE.due("499 ticks", x.lifted(0), in499);
        x.pass(1);
        DUE.due("500 ticks", x.lifted(0), in500);
        DUE.due("some in tick 500", in500 > in499);
    }

    private static void deliveredIntoAFullTank() {
        DUE.sentence("overflowed liters are delivered");
        RamStation x = new RamStation();
        x.addPump(20, 90, 18, 0, 30);
        x.setChamber(0, 400, true);
        x.setInflow(500);
        x.start(0);
        for (int i = 0; i < 6; i++) {
            x.pass(200);
        }
        DUE.due("tank", x.tank(0), 30000);
        int trial = x.deliveredIn(0, 100);
        DUE.due("delivered", trial > 0);
        int overflowed = x.overflowed(0);
        DUE.due("pass", x.pass(100), trial);
        DUE.due("overflowed", x.overflowed(0), overflowed + trial);
        DUE.due("starved", x.starved(0), 0);
    }

    private static void drawnInOneAndInMore() {
        DUE.sentence("the sum of the flows of the first ticks of the trial, as many as ticks");
        RamStation x = strong();
        int[] drawn = {0, 1980, 1980, 3960, 3960, 5940};
        for (int ticks = 1; ticks <= drawn.length; ticks++) {
            DUE.due("drawnIn " + ticks, x.drawnIn(0, ticks), drawn[ticks - 1]);
        }
        x.start(0);
        x.pass(1);
        DUE.due("drawnIn 1 from now", x.drawnIn(0, 1), 1980);
    }

    private static void drawnIn500() {
        DUE.sentence("the sum of the flows of 500 ticks");
        RamStation x = timed(99, 10, 20, 500, 500);
        DUE.due("499", x.drawnIn(0, 499), 1980 + 3960 + 496 * 4000);
        DUE.due("500", x.drawnIn(0, 500), 1980 + 3960 + 497 * 4000);
    }

    private static void periodOfTheFirstTwoSlams() {
        DUE.sentence("the number of ticks from a slam to the first later slam that is like an earlier one");
        RamStation x = weak(2000);
        x.setChamber(0, 2000, true);
        DUE.due("slams in the ticks 1 and 4", x.period(0), 3);
    }

    // Slams in the ticks 2, 5 .. 2000 of the trial; after its slam 666 the air of 741 is its least space, 74.
    private static void periodInTick2000() {
        DUE.sentence("the pump is tried for 2000 ticks: the slam in tick 2000 is like an earlier one");
        RamStation x = weak(741);
        x.start(0);
        x.pass(2);
        DUE.due("ticksToSlam", x.ticksToSlam(0), 2);
        DUE.due("period", x.period(0), 3);
        RamStation y = weak(742);
        y.start(0);
        y.pass(2);
        DUE.due("a slam more is needed", y.period(0), NONE);
    }

    // Slams in the ticks 3, 6 .. 1998 and 2001; after its slam 666 the air of 741 is its least space.
    private static void periodInTick2001() {
        DUE.sentence("the pump is tried for 2000 ticks: the slam in tick 2001 is the first like an earlier one");
        RamStation x = weak(741);
        x.start(0);
        x.pass(1);
        DUE.due("ticksToSlam", x.ticksToSlam(0), 3);
        DUE.due("period", x.period(0), NONE);
        x.pass(2);
        DUE.due("two ticks later it is in tick 1999", x.period(0), 3);
    }

    /** The period of a pump as one sees it tick by tick. */
    private static int watchedPeriod(RamStation x, int ticks) {
        int[][] slams = new int[ticks][];
        int beats = x.beats(0);
        for (int tick = 0; tick < ticks; tick++) {
            x.pass(1);
            int beatsNow = x.beats(0);
            if (beatsNow > beats) {
                slams[tick] = new int[] {x.speed(0), x.chamberWater(0), x.air(0)};
                for (int earlier = 0; earlier < tick; earlier++) {
                    if (Arrays.equals(slams[earlier], slams[tick])) {
                        return tick - earlier;
                    }
                }
            }
            beats = beatsNow;
        }
        return NONE;
    }

    // The chamber is full and without a head, so the pump is closed until its speed of 1500 is lost.
    private static void periodOfTheOnlyTwoSlams() {
        DUE.sentence("the number of ticks from a slam to the first later slam that is like an earlier one: only two");
        RamStation x = timed(75, 10, 1, 500, 1);
        x.setChamber(0, 50, false);
        x.setInflow(500);
        x.start(0);
        for (int i = 0; i < 60 && x.air(0) > 5; i++) {
            x.pass(200);
        }
        x.stop(0);
        DUE.due("air", x.air(0), 5);
        DUE.due("chamberWater", x.chamberWater(0), 45);
        x.setValve(0, 2, 2);
        DUE.due("slams in the ticks 2 and 1504", x.period(0), 1502);
        x.start(0);
        x.pass(1);
        DUE.due("ticksToSlam", x.ticksToSlam(0), 1);
        DUE.due("slams in the ticks 1 and 1503", x.period(0), 1502);
        x.pass(1);
        DUE.due("ticksToSlam", x.ticksToSlam(0), 1502);
        DUE.due("one slam, in tick 1502", x.period(0), NONE);
    }

    // With a snifter valve the air is the same after each slam, and the speed is 200.
    private static void slamsThatDifferByTheirWater() {
        DUE.sentence("two slams are alike if .. the chamber water .. are the same");
        RamStation x = new RamStation();
        x.addPump(20, 10, 1, 0, 21);
        x.setChamber(0, 400, true);
        x.start(0);
        DUE.due("ticksToSlam", x.ticksToSlam(0), 1);
        x.pass(1);
        int first = x.chamberWater(0);
        DUE.due("the next slam", x.ticksToSlam(0), 7);
        x.pass(7);
        DUE.due("speed", x.speed(0), 200);
        DUE.due("air", x.air(0), 400);
        DUE.due("the water is another one", x.chamberWater(0) != first);
        x.undo();
        x.undo();
        DUE.due("period", x.period(0), 2);
        DUE.due("watched", watchedPeriod(x, 120), 2);
        RamStation y = new RamStation();
        y.addPump(20, 10, 1, 0, 120);
        y.setChamber(0, 60, true);
        y.start(0);
        DUE.due("period of beats that take turns", y.period(0), 4);
        y.pass(200);
        DUE.due("interval", y.interval(0, 0), 2);
        DUE.due("the interval before", y.interval(0, 1), 2);
        DUE.due("period", y.period(0), 4);
        DUE.due("watched", watchedPeriod(y, 20), 4);
    }

    private static void slamsThatDifferByTheirAir() {
        DUE.sentence("two slams are alike if .. the air are the same");
        RamStation x = new RamStation();
        x.addPump(20, 50, 1, 0, 21);
        x.setValve(0, 0, 2);
        DUE.due("period", x.period(0), 41);
        DUE.due("period of the weak pump with less air after each slam", weak(2000).period(0), NONE);
    }

    private static void periodAsWatched() {
        DUE.sentence("counted from this earlier one");
        int[][] pumps = {{20, 10, 1, 0, 21}, {60, 20, 10, 3, 70}, {30, 40, 10, 0, 70}, {45, 77, 12, 1, 60},
            {99, 50, 2, 0, 120}};
        for (int[] p : pumps) {
            RamStation x = new RamStation();
            x.addPump(p[0], p[1], p[2], p[3], p[4]);
            x.setChamber(0, 400, true);
            x.setInflow(500);
            x.pass(30);
            x.start(0);
            int period = x.period(0);
            int watched = watchedPeriod(x, 160);
            DUE.due("a period is seen", watched > 0);
            DUE.due("starved", x.starved(0), 0);
            DUE.due("period", period, watched);
            DUE.due("period from now", x.period(0), watched);
        }
    }

    private static void periodWithTheLastSlamAlone() {
        DUE.sentence("NONE if no two slams of the trial are alike: all differ by their air");
        DUE.due("period", weak(2000).period(0), NONE);
        RamStation one = longClosed(4);
        DUE.due("a slam", one.ticksToSlam(0), 1999);
        DUE.due("a single slam", one.period(0), NONE);
    }

    private static void periodOfNoSlam() {
        DUE.sentence("NONE if no two slams of the trial are alike: there is none");
        RamStation x = new RamStation();
        x.addPump(10, 400, 1, 100, 11);
        DUE.due("period", x.period(0), NONE);
    }

    // In the first tick from rest the chamber delivers 52 liters, with each length and each setting.
    private static RamStation withChamberWater() {
        RamStation x = strong();
        x.start(0);
        x.pass(2);
        x.stop(0);
        DUE.due("deliveredIn 1", x.deliveredIn(0, 1), 52);
        return x;
    }

    private static void equalLengths() {
        DUE.sentence("the shortest one if there are several");
        DUE.due("all alike", withChamberWater().bestLength(0, 1), 10);
        RamStation none = timed(20, 50, 5, 500, 60);
        DUE.due("nothing is delivered", none.bestLength(0, 2), 10);
    }

    private static int deliveredWithLength(int length) {
        RamStation x = new RamStation();
        x.addPump(20, length, 10, 0, 30);
        x.setChamber(0, 400, true);
        return x.deliveredIn(0, 20);
    }

    private static void leastLength() {
        DUE.sentence("the lengths 10, 20, 30 and so on, up to 400, are compared: 10");
        RamStation x = new RamStation();
        x.addPump(20, 45, 10, 0, 30);
        x.setChamber(0, 400, true);
        DUE.due("bestLength", x.bestLength(0, 20), 10);
        for (int length = 20; length <= 400; length += 10) {
            DUE.due("10 delivers more than " + length, deliveredWithLength(10) > deliveredWithLength(length));
        }
    }

    // With 40 open ticks the water gains too much speed in all but the longest pipe.
    private static void greatestLength() {
        DUE.sentence("the lengths 10, 20, 30 and so on, up to 400, are compared: 400");
        RamStation x = timed(17, 50, 16, 18, 40);
        DUE.due("bestLength", x.bestLength(0, 300), 400);
        int most = timed(17, 400, 16, 18, 40).deliveredIn(0, 300);
        for (int length = 10; length < 400; length += 10) {
            DUE.due("400 delivers more than " + length, most > timed(17, length, 16, 18, 40).deliveredIn(0, 300));
        }
    }

    private static void otherLengths() {
        DUE.sentence("the lengths 10, 20, 30 and so on, up to 400, are compared: no other one");
        RamStation x = timed(30, 13, 1, 40, 9);
        x.setChamber(0, 400, true);
        DUE.due("bestLength", x.bestLength(0, 20), 10);
        DUE.due("13 delivers", x.deliveredIn(0, 20), 158);
        RamStation best = timed(30, 10, 1, 40, 9);
        best.setChamber(0, 400, true);
        DUE.due("10 delivers", best.deliveredIn(0, 20), 142);
    }

    private static void equalSettings() {
        DUE.sentence("the least one if there are several");
        DUE.due("all alike", withChamberWater().bestSetting(0, 1), 10);
        RamStation none = timed(20, 50, 5, 500, 60);
        DUE.due("nothing is delivered", none.bestSetting(0, 2), 10);
    }

    private static void leastSetting() {
        DUE.sentence("the settings 10, 20, 30 and so on, up to 500, are compared: 10");
        RamStation x = timed(10, 20, 5, 20, 60);
        DUE.due("bestSetting", x.bestSetting(0, 300), 10);
        x.setValve(0, 2, 10);
        int delivered = x.deliveredIn(0, 300);
        for (int setting = 20; setting <= 500; setting += 10) {
            x.setValve(0, 2, setting);
            DUE.due("10 delivers more than " + setting, delivered > x.deliveredIn(0, 300));
        }
        x.setValve(0, 2, 9);
        DUE.due("9 would deliver more, but is not compared", x.deliveredIn(0, 300) > delivered);
    }

    private static void greatestSetting() {
        DUE.sentence("the settings 10, 20, 30 and so on, up to 500, are compared: 500");
        RamStation x = new RamStation();
        x.addPump(20, 200, 1, 0, 41);
        x.setChamber(0, 400, true);
        DUE.due("bestSetting", x.bestSetting(0, 300), 500);
        x.setValve(0, 0, 500);
        int most = x.deliveredIn(0, 300);
        for (int setting = 10; setting < 500; setting += 10) {
            x.setValve(0, 0, setting);
            DUE.due("500 delivers more than " + setting, most > x.deliveredIn(0, 300));
        }
    }

    private static void presentKind() {
        DUE.sentence("with the present kind of the valve");
        int[] kinds = {0, 1, 2};
        for (int kind : kinds) {
            RamStation x = timed(60, 300, 9, 200, 7);
            x.setValve(0, kind, 7);
            int best = x.bestSetting(0, 300);
            x.setValve(0, kind, best);
            int most = x.deliveredIn(0, 300);
            for (int setting = 10; setting <= 500; setting += 10) {
                x.setValve(0, kind, setting);
                int delivered = x.deliveredIn(0, 300);
                DUE.due("kind " + kind + ", " + setting, setting < best ? delivered < most : delivered <= most);
            }
        }
    }
}
