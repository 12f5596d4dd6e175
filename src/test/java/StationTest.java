/** Promises 16 to 23: the station and its incidents. */
public final class StationTest {
    private static final Due DUE = new Due("StationTest");

    public static void main(String[] args) {
        basinAndSpilled();
        pumpsShareTheBasin();
        starvingAndRelieving();
        overflowing();
        airGone();
        twentyIncidents();
        orderOfIncidents();
        DUE.end();
    }

    private static void incident(RamStation x, int back, int kind, int pump, int time) {
        DUE.due("kind of " + back, x.incidentKind(back), kind);
        DUE.due("pump of " + back, x.incidentPump(back), pump);
        DUE.due("time of " + back, x.incidentTime(back), time);
    }

    // Promises 16 to 19
    private static void basinAndSpilled() {
        RamStation x = new RamStation();
        x.pass(150);
        DUE.due("just full", x.basin(), 20000);
        DUE.due("nothing spilled", x.spilled(), 0);
        x.pass(1);
        DUE.due("full", x.basin(), 20000);
        DUE.due("spilled", x.spilled(), 100);
        x.setInflow(7);
        x.pass(10);
        DUE.due("spilled more", x.spilled(), 170);
        DUE.due("time", x.time(), 161);
        DUE.due("no pump", x.pumps(), 0);
    }

    // The first pump takes what the second one then lacks; a flow of just the basin's water is taken.
    private static void pumpsShareTheBasin() {
        RamStation x = new RamStation();
        x.addPump(99, 10, 20, 0, 500);
        x.addPump(99, 10, 20, 0, 500);
        x.setValve(0, 2, 500);
        x.setValve(1, 2, 500);
        x.setInflow(470);
        x.start(0);
        x.start(1);
        x.pass(1);
        DUE.due("basin", x.basin(), 5470);
        x.pass(1);
        DUE.due("two flows of 1980", x.basin(), 1980);
        DUE.due("wasted", x.wasted(1), 1980);
        x.setInflow(0);
        x.stop(1);
        DUE.due("speed", x.speed(0), 1980);
        x.pass(1);
        DUE.due("3960 are not there", x.basin(), 1980);
        DUE.due("starved", x.starved(0), 1);
        DUE.due("speed", x.speed(0), 0);
        DUE.due("open ticks", x.openTicks(0), 0);
        x.pass(2);
        DUE.due("1980 are there, and no more", x.basin(), 0);
        DUE.due("it did not starve", x.starved(0), 1);
        DUE.due("wasted", x.wasted(0), 3960);
        x.stop(0);
        x.start(1);
        x.pass(2);
        DUE.due("the other starves", x.starved(1), 1);
        incident(x, 0, 1, 1, 6);
        incident(x, 1, 1, 0, 2);
    }

    // Promises 20 to 23
    private static void starvingAndRelieving() {
        RamStation x = new RamStation();
        DUE.due("none yet", x.incidentKind(0), RamStation.NONE);
        DUE.due("none yet", x.incidentPump(0), RamStation.NONE);
        DUE.due("none yet", x.incidentTime(0), RamStation.NONE);
        DUE.due("negative", x.incidentKind(-1), RamStation.BAD_VALUE);
        DUE.due("negative", x.incidentPump(-1), RamStation.BAD_VALUE);
        DUE.due("negative", x.incidentTime(Integer.MIN_VALUE), RamStation.BAD_VALUE);
        x.addPump(10, 10, 1, 0, 11);
        x.addPump(99, 10, 20, 0, 500);
        x.setChamber(1, 50, false);
        x.start(1);
        x.pass(6);
        DUE.due("incidents", x.incidents(), 3);
        incident(x, 2, 2, 1, 1);
        incident(x, 1, 2, 1, 3);
        incident(x, 0, 1, 1, 5);
        DUE.due("no fourth", x.incidentKind(3), RamStation.NONE);
        DUE.due("far back", x.incidentPump(Integer.MAX_VALUE), RamStation.NONE);
        x.period(1);
        x.bestSetting(1, 300);
        DUE.due("trials cause none", x.incidents(), 3);
        x.undo();
        DUE.due("they are not undone", x.incidents(), 3);
        incident(x, 0, 1, 1, 5);
    }

    private static void overflowing() {
        RamStation x = new RamStation();
        x.addPump(20, 50, 5, 0, 30);
        x.setChamber(0, 400, true);
        x.addPump(10, 400, 1, 0, 11);
        x.setChamber(1, 400, true);
        x.setValve(1, 2, 1);
        x.start(0);
        x.start(1);
        int delivered = 0;
        for (int i = 0; i < 60 && delivered + 14 * 200 <= 30000; i++) {
            delivered += x.pass(200);
        }
        for (int i = 0; i < 300 && x.tank(0) < 30000; i++) {
            delivered += x.pass(1);
            DUE.due("no overflow before the tank is full", x.tank(0) + x.overflowed(0), delivered);
        }
        int incidents = x.overflowed(0) > 0 ? 1 : 0;
        DUE.due("incidents", x.incidents(), incidents);
        int more = x.pass(1);
        for (int i = 0; i < 20 && more == 0; i++) {
            more = x.pass(1);
        }
        DUE.due("the tank is full", x.tank(0), 30000);
        DUE.due("the rest overflowed", x.overflowed(0), delivered + more - 30000);
        DUE.due("and is lifted", x.lifted(0), delivered + more);
        DUE.due("an incident", x.incidents(), incidents + 1);
        incident(x, 0, 3, 0, x.time() - 1);
        DUE.due("emptied", x.emptyTank(0), 30000);
        int after = x.pass(50);
        DUE.due("tank", x.tank(0), after);
        DUE.due("no more overflow", x.incidents(), incidents + 1);
    }

    // A beat of three ticks: speed 2 and a slam, speed 1, speed 0 and open.
    private static void airGone() {
        RamStation x = new RamStation();
        x.addPump(10, 400, 1, 0, 11);
        x.setChamber(0, 50, false);
        x.setValve(0, 2, 1);
        x.start(0);
        x.pass(132);
        DUE.due("air", x.air(0), 6);
        DUE.due("no incident yet", x.incidents(), 0);
        x.pass(1);
        DUE.due("air", x.air(0), 5);
        DUE.due("one incident", x.incidents(), 1);
        incident(x, 0, 4, 0, 132);
        x.pass(100);
        DUE.due("air stays", x.air(0), 5);
        DUE.due("and no more", x.incidents(), 1);
        x.stop(0);
        x.setChamber(0, 50, true);
        x.start(0);
        x.pass(200);
        DUE.due("with a snifter valve", x.air(0), 50);
        DUE.due("none", x.incidents(), 1);
        x.stop(0);
        x.setChamber(0, 59, false);
        x.start(0);
        x.pass(3 * 53 + 1);
        DUE.due("the least space of 59 liters is 5", x.air(0), 5);
        DUE.due("two", x.incidents(), 2);
    }

    private static void twentyIncidents() {
        RamStation x = new RamStation();
        x.addPump(99, 10, 20, 0, 500);
        x.setInflow(0);
        x.start(0);
        x.pass(1);
        int made = 0;
        for (int i = 0; i < 200 && made < 23; i++) {
            x.pass(1);
            made = x.incidents();
        }
        DUE.due("made", made, 23);
        DUE.due("the twentieth is kept", x.incidentKind(19) != RamStation.NONE ? 1 : 0, 1);
        DUE.due("kind 20", x.incidentKind(20), RamStation.NONE);
        DUE.due("pump 20", x.incidentPump(20), RamStation.NONE);
        DUE.due("time 20", x.incidentTime(20), RamStation.NONE);
        for (int back = 1; back < 20; back++) {
            DUE.due("in their order", x.incidentTime(back) < x.incidentTime(back - 1) ? 1 : 0, 1);
        }
    }

    // In one tick a pump relieves before its tank overflows, and pump 0 comes before pump 1.
    private static void orderOfIncidents() {
        RamStation x = new RamStation();
        x.setInflow(500);
        for (int pump = 0; pump < 2; pump++) {
            x.addPump(99, 10, 3, 0, 100);
            x.setChamber(pump, 60, true);
            x.start(pump);
        }
        for (int i = 0; i < 20; i++) {
            x.pass(200);
        }
        int time = x.incidentTime(0);
        DUE.due("in the last beat", time >= 3998 ? 1 : 0, 1);
        incident(x, 0, 3, 1, time);
        incident(x, 1, 2, 1, time);
        incident(x, 2, 3, 0, time);
        incident(x, 3, 2, 0, time);
    }
}
