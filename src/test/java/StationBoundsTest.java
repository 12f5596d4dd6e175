/** The bounds of 'Terms': the station, and a tick of the station. One method for each sentence. */
public final class StationBoundsTest {
    private static final Due DUE = new Due("StationBoundsTest");

    public static void main(String[] args) {
        noPump();
        fourPumps();
        pumpsInTheirOrder();
        basinAtFirst();
        basinJustFull();
        basinOneLiterTooFull();
        basinFullFromBelow();
        basinFullByAChamber();
        basinJustFullByAChamber();
        inflowAtFirst();
        inflowLeastAndMost();
        inflowBeforeThePumps();
        spilledBeforeThePumps();
        timeAtFirst();
        timeOfAnIncident();
        timeGreatest();
        emptyBasin();
        lowestNumberFirst();
        noTickAtRest();
        callNumber512();
        DUE.end();
    }

    /** With this pump and an open valve the speeds are 990, 1980, 2000 and then always 2000. */
    private static RamStation withFastPump(int area) {
        RamStation x = new RamStation();
        x.addPump(99, 10, area, 0, 500);
        x.setValve(0, 2, 500);
        return x;
    }

    private static void noPump() {
        DUE.sentence("a station without pumps");
        RamStation x = new RamStation();
        DUE.due("pumps", x.pumps(), 0);
        DUE.due("speed of pump 0", x.speed(0), RamStation.NO_SUCH_PUMP);
        DUE.due("pass", x.pass(1), 0);
        DUE.due("bestPump", x.bestPump(), RamStation.NONE);
        DUE.due("basin", x.basin(), 5100);
    }

    private static void fourPumps() {
        DUE.sentence("at most 4 pumps");
        RamStation x = new RamStation();
        for (int i = 0; i < 4; i++) {
            DUE.due("pump " + i, x.addPump(20, 50, 5, 0, 30), i);
        }
        DUE.due("a fifth one", x.addPump(20, 50, 5, 0, 30), RamStation.FULL);
        DUE.due("pumps", x.pumps(), 4);
        DUE.due("speed of pump 3", x.speed(3), 0);
        DUE.due("speed of pump 4", x.speed(4), RamStation.NO_SUCH_PUMP);
    }

    private static void pumpsInTheirOrder() {
        DUE.sentence("numbered from 0 in the order in which they were added");
        RamStation x = new RamStation();
        int[] lengths = {50, 100, 200, 400};
        for (int i = 0; i < 4; i++) {
            DUE.due("number", x.addPump(20, lengths[i], 1, 0, 30), i);
            DUE.due("pumps", x.pumps(), i + 1);
            x.start(i);
        }
        x.pass(1);
        for (int i = 0; i < 4; i++) {
            DUE.due("speed of pump " + i, x.speed(i), 2000 / lengths[i]);
        }
    }

    private static void basinAtFirst() {
        DUE.sentence("the basin at first 5000");
        DUE.due("basin", new RamStation().basin(), 5000);
    }

    private static void basinJustFull() {
        DUE.sentence("the basin holds at most 20000 liters: 20000 is allowed");
        RamStation x = new RamStation();
        x.setInflow(500);
        x.pass(30);
        DUE.due("basin", x.basin(), 20000);
        DUE.due("spilled", x.spilled(), 0);
    }

    private static void basinOneLiterTooFull() {
        DUE.sentence("more than 20000 liters: it holds 20000, the rest is spilled");
        RamStation x = new RamStation();
        x.setInflow(500);
        x.pass(30);
        x.setInflow(1);
        x.pass(1);
        DUE.due("basin", x.basin(), 20000);
        DUE.due("spilled", x.spilled(), 1);
        x.setInflow(500);
        x.pass(2);
        DUE.due("basin", x.basin(), 20000);
        DUE.due("spilled", x.spilled(), 1001);
        x.setInflow(0);
        x.pass(2);
        DUE.due("basin without inflow", x.basin(), 20000);
        DUE.due("spilled without inflow", x.spilled(), 1001);
    }

    private static void basinFullFromBelow() {
        DUE.sentence("more than 20000 liters, from below");
        RamStation x = new RamStation();
        x.setInflow(499);
        x.pass(30);
        DUE.due("basin", x.basin(), 19970);
        DUE.due("spilled", x.spilled(), 0);
        x.setInflow(31);
        x.pass(1);
        DUE.due("basin", x.basin(), 20000);
        DUE.due("spilled", x.spilled(), 1);
    }

    // A beat of which the chamber keeps 4 liters, since its head is far below the lift.
    private static RamStation withFourLiters() {
        RamStation x = new RamStation();
        x.addPump(20, 50, 1, 0, 500);
        x.setValve(0, 2, 1);
        x.start(0);
        x.pass(2);
        x.stop(0);
        DUE.due("chamber water", x.chamberWater(0), 4);
        DUE.due("basin", x.basin(), 5196);
        return x;
    }

    private static void basinJustFullByAChamber() {
        DUE.sentence("what the basin cannot hold of the chamber water: nothing, it is just full");
        RamStation x = withFourLiters();
        x.setInflow(400);
        x.pass(37);
        DUE.due("basin before", x.basin(), 19996);
        DUE.due("water", x.setChamber(0, 50, false), 4);
        DUE.due("basin", x.basin(), 20000);
        DUE.due("spilled", x.spilled(), 0);
    }

    private static void basinFullByAChamber() {
        DUE.sentence("what the basin cannot hold of the chamber water is spilled");
        RamStation x = withFourLiters();
        x.setInflow(400);
        x.pass(37);
        x.setInflow(1);
        x.pass(1);
        DUE.due("basin before", x.basin(), 19997);
        DUE.due("water", x.setChamber(0, 50, false), 4);
        DUE.due("basin", x.basin(), 20000);
        DUE.due("spilled", x.spilled(), 1);
        x = withFourLiters();
        x.setInflow(500);
        x.pass(30);
        DUE.due("basin before", x.basin(), 20000);
        int spilled = x.spilled();
        x.setChamber(0, 50, false);
        DUE.due("basin", x.basin(), 20000);
        DUE.due("all of it is spilled", x.spilled(), spilled + 4);
    }

    private static void inflowAtFirst() {
        DUE.sentence("an inflow, at first 100");
        RamStation x = new RamStation();
        x.pass(1);
        DUE.due("basin", x.basin(), 5100);
        DUE.due("inflow", x.setInflow(3), 100);
    }

    private static void inflowLeastAndMost() {
        DUE.sentence("an inflow of 0 to 500 liters per tick");
        RamStation x = new RamStation();
        DUE.due("0", x.setInflow(0), 100);
        x.pass(7);
        DUE.due("basin", x.basin(), 5000);
        DUE.due("500", x.setInflow(500), 0);
        x.pass(7);
        DUE.due("basin", x.basin(), 8500);
        DUE.due("-1", x.setInflow(-1), RamStation.BAD_VALUE);
        DUE.due("501", x.setInflow(501), RamStation.BAD_VALUE);
        DUE.due("inflow", x.setInflow(100), 500);
    }

    // Flows of 0, 990 and 1980 liters, then 2000 each.
    private static void inflowBeforeThePumps() {
        DUE.sentence("1. the inflow is added, 2. each pump that runs makes a tick");
        RamStation x = withFastPump(10);
        x.setInflow(0);
        x.start(0);
        x.pass(4);
        DUE.due("basin", x.basin(), 30);
        x.setInflow(500);
        x.pass(3);
        DUE.due("it starves: 530 are less than 2000", x.starved(0), 1);
        DUE.due("990 of 1530 are taken", x.basin(), 540);
        RamStation y = withFastPump(10);
        y.setInflow(493);
        y.start(0);
        y.pass(4);
        DUE.due("basin", y.basin(), 2002);
        y.setInflow(0);
        y.pass(1);
        DUE.due("basin", y.basin(), 2);
        RamStation z = withFastPump(20);
        z.setInflow(320);
        z.start(0);
        z.pass(2);
        DUE.due("basin", z.basin(), 3660);
        z.pass(1);
        DUE.due("3660 and 320 are enough for 3960", z.basin(), 20);
        DUE.due("it does not starve", z.starved(0), 0);
    }

    private static void spilledBeforeThePumps() {
        DUE.sentence("1. the rest is spilled, before 2. a pump takes water");
        RamStation x = withFastPump(10);
        x.pass(150);
        DUE.due("basin", x.basin(), 20000);
        x.start(0);
        x.pass(2);
        DUE.due("a full basin spills the inflow of both ticks", x.spilled(), 200);
        DUE.due("basin", x.basin(), 19010);
    }

    private static void timeAtFirst() {
        DUE.sentence("the time is 0 at first");
        RamStation x = new RamStation();
        DUE.due("time", x.time(), 0);
        x.pass(1);
        DUE.due("time", x.time(), 1);
    }

    private static void timeOfAnIncident() {
        DUE.sentence("the present time is the time before step 3 of the tick of the station");
        RamStation x = new RamStation();
        x.addPump(10, 10, 1, 0, 11);
        x.setChamber(0, 50, false);
        x.setValve(0, 2, 1);
        x.start(0);
        x.pass(1);
        DUE.due("interval of a slam in the first tick", x.interval(0, 0), 0);
        DUE.due("time", x.time(), 1);
        RamStation y = withFastPump(20);
        y.setInflow(0);
        y.start(0);
        y.pass(3);
        DUE.due("starved", y.starved(0), 1);
        DUE.due("in the tick from 2 to 3", y.incidentTime(0), 2);
    }

    private static RamStation atTime(int time) {
        RamStation x = new RamStation();
        for (int left = time; left > 0; left -= 200) {
            x.pass(Math.min(left, 200));
        }
        return x;
    }

    private static void timeGreatest() {
        DUE.sentence("the time is at most 20000");
        RamStation x = atTime(19999);
        DUE.due("two ticks", x.pass(2), RamStation.NOT_POSSIBLE);
        DUE.due("none of the two is made", x.time(), 19999);
        DUE.due("one tick", x.pass(1), 0);
        DUE.due("time", x.time(), 20000);
        DUE.due("one more", x.pass(1), RamStation.NOT_POSSIBLE);
        DUE.due("200 more", x.pass(200), RamStation.NOT_POSSIBLE);
        DUE.due("time", x.time(), 20000);
        RamStation y = atTime(19800);
        DUE.due("200 ticks to the end", y.pass(200), 0);
        DUE.due("time", y.time(), 20000);
        RamStation z = atTime(19801);
        DUE.due("200 ticks beyond the end", z.pass(200), RamStation.NOT_POSSIBLE);
        DUE.due("199 ticks", z.pass(199), 0);
    }

    private static void emptyBasin() {
        DUE.sentence("the basin may be empty");
        RamStation x = withFastPump(10);
        x.addPump(10, 400, 1, 0, 11);
        x.setInflow(197);
        x.pass(10);
        x.setInflow(0);
        x.start(0);
        x.pass(5);
        DUE.due("0 + 990 + 1980 + 2000 + 2000 are taken of 6970", x.basin(), 0);
        DUE.due("without starving", x.starved(0), 0);
        x.start(1);
        x.pass(5);
        DUE.due("it starves", x.starved(0), 3);
        DUE.due("a flow of 0 is not greater than 0", x.starved(1), 0);
        DUE.due("speed after five ticks without flow", x.speed(1), 10);
        x.pass(1);
        DUE.due("a flow of 1 is", x.starved(1), 1);
        DUE.due("basin", x.basin(), 0);
    }

    private static void lowestNumberFirst() {
        DUE.sentence("each pump that runs makes a tick, in the order of their numbers");
        RamStation x = new RamStation();
        for (int i = 0; i < 2; i++) {
            x.addPump(99, 10, 20, 0, 500);
            x.setValve(i, 2, 500);
        }
        x.setInflow(470);
        x.start(1);
        x.start(0);
        x.pass(3);
        DUE.due("5000 + 1410 - 1980 - 1980 are too few for 3960", x.starved(0), 1);
        DUE.due("for both", x.starved(1), 1);
        DUE.due("the first incident is of pump 0", x.incidentPump(1), 0);
        DUE.due("the second of pump 1", x.incidentPump(0), 1);
        x.setInflow(0);
        x.pass(2);
        DUE.due("1980 of 2450 are for pump 0", x.starved(0), 1);
        DUE.due("and 470 too few for pump 1", x.starved(1), 2);
        DUE.due("basin", x.basin(), 470);
    }

    private static void noTickAtRest() {
        DUE.sentence("each pump that runs makes a tick: no other one");
        RamStation x = withFastPump(10);
        x.pass(3);
        DUE.due("speed", x.speed(0), 0);
        DUE.due("openTicks", x.openTicks(0), 0);
        DUE.due("trace", x.trace(0, 0), RamStation.NONE);
        DUE.due("basin", x.basin(), 5300);
    }

    private static void callNumber512() {
        DUE.sentence("an object is used for at most 512 calls");
        RamStation x = new RamStation();
        for (int call = 1; call <= 509; call++) {
            DUE.due("call " + call, x.setInflow(call % 500), call == 1 ? 100 : (call - 1) % 500);
        }
        DUE.due("call 510", x.undo(), 7);
        DUE.due("call 511", x.setInflow(77), 508 % 500);
        DUE.due("call 512", x.undo(), 7);
    }
}
