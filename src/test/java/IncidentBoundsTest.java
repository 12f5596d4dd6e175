/** The bounds of 'Terms': incidents. One method for each sentence. */
public final class IncidentBoundsTest {
    private static final Due DUE = new Due("IncidentBoundsTest");
    private static final int NONE = RamStation.NONE;

    public static void main(String[] args) {
        noIncident();
        oneIncident();
        starving();
        oneLiterRelieved();
        oneLiterOverflowed();
        airBecomesTheLeastSpace();
        airIsTheLeastSpaceAnew();
        noAirIncidentWithASnifterValve();
        noneInTicksWithoutOne();
        pumpsInTheirOrder();
        starvingBeforeOverflowing();
        nineteenIncidents();
        twentyIncidents();
        twentyOneIncidents();
        allAreCounted();
        trialsCauseNone();
        theyAreNotUndone();
        DUE.end();
    }

    private static RamStation timed(int head, int length, int area, int lift, int ticks) {
        RamStation x = new RamStation();
        x.addPump(head, length, area, 0, lift);
        x.setValve(0, 2, ticks);
        return x;
    }

    private static void incident(RamStation x, int back, int kind, int pump, int time) {
        DUE.due("incidentKind " + back, x.incidentKind(back), kind);
        DUE.due("incidentPump " + back, x.incidentPump(back), pump);
        DUE.due("incidentTime " + back, x.incidentTime(back), time);
    }

    private static void noIncident() {
        DUE.sentence("NONE if no such incident is kept: none at all");
        RamStation x = new RamStation();
        DUE.due("incidents", x.incidents(), 0);
        incident(x, 0, NONE, NONE, NONE);
        incident(x, 19, NONE, NONE, NONE);
        x.addPump(20, 50, 5, 0, 30);
        x.start(0);
        x.pass(200);
        DUE.due("incidents of a pump that works well", x.incidents(), 0);
        incident(x, 0, NONE, NONE, NONE);
    }

    private static void oneIncident() {
        DUE.sentence("NONE if no such incident is kept: just one");
        RamStation x = starvedTimes(1);
        incident(x, 0, 1, 0, 2);
        incident(x, 1, NONE, NONE, NONE);
    }

    /** The pump starves at the times 2, 5, 7, 9, 11 and so on. */
    private static RamStation starvedTimes(int times) {
        RamStation x = timed(99, 10, 20, 500, 500);
        x.setInflow(0);
        x.start(0);
        int ticks = times == 1 ? 3 : 2 * times + 2;
        for (int left = ticks; left > 0; left -= 200) {
            x.pass(Math.min(left, 200));
        }
        DUE.due("starved", x.starved(0), times);
        return x;
    }

    private static void starving() {
        DUE.sentence("kind 1: a pump starves");
        RamStation x = timed(99, 10, 20, 500, 500);
        x.setInflow(0);
        x.start(0);
        x.pass(2);
        DUE.due("incidents before", x.incidents(), 0);
        x.pass(1);
        DUE.due("incidents", x.incidents(), 1);
        incident(x, 0, 1, 0, 2);
        x.pass(2);
        DUE.due("incidents", x.incidents(), 1);
        x.pass(1);
        DUE.due("each starved tick", x.incidents(), 2);
        incident(x, 0, 1, 0, 5);
    }

    // A chamber of 50 takes 45 liters; the speed is the head, the flow is the speed.
    private static RamStation pushing(int liters) {
        RamStation x = timed(liters, 100, 10, 500, 1);
        x.setChamber(0, 50, false);
        x.start(0);
        x.pass(2);
        return x;
    }

    private static void oneLiterRelieved() {
        DUE.sentence("kind 2: in step 3 at least 1 liter is added to the relieved liters");
        RamStation full = pushing(45);
        DUE.due("relieved", full.relieved(0), 0);
        DUE.due("incidents", full.incidents(), 0);
        RamStation more = pushing(46);
        DUE.due("relieved", more.relieved(0), 1);
        DUE.due("incidents", more.incidents(), 1);
        incident(more, 0, 2, 0, 1);
        RamStation far = pushing(99);
        DUE.due("relieved", far.relieved(0), 54);
        DUE.due("one incident for all liters", far.incidents(), 1);
    }

    private static void oneLiterOverflowed() {
        DUE.sentence("kind 3: in step 4 at least 1 liter is added to the overflowed liters");
        RamStation x = new RamStation();
        x.addPump(20, 90, 18, 0, 30);
        x.setChamber(0, 400, true);
        x.setInflow(500);
        x.start(0);
        for (int i = 0; i < 5; i++) {
            x.pass(200);
        }
        x.pass(24);
        DUE.due("overflowed", x.overflowed(0), 0);
        DUE.due("incidents", x.incidents(), 0);
        x.pass(1);
        DUE.due("overflowed", x.overflowed(0), 1);
        DUE.due("incidents", x.incidents(), 1);
        incident(x, 0, 3, 0, 1024);
        x.emptyTank(0);
        DUE.due("delivered into an empty tank", x.pass(10) > 0);
        DUE.due("incidents", x.incidents(), 1);
    }

    // Slams at the times 0, 3, 6 and so on; the least space of 50 and of 59 liters is 5.
    private static void airBecomesTheLeastSpace() {
        DUE.sentence("kind 4: at a slam the air becomes equal to the least space and was greater before");
        RamStation x = timed(10, 400, 1, 11, 1);
        x.setChamber(0, 50, false);
        x.start(0);
        x.pass(44 * 3);
        DUE.due("air", x.air(0), 6);
        DUE.due("incidents", x.incidents(), 0);
        x.pass(1);
        DUE.due("air", x.air(0), 5);
        DUE.due("incidents", x.incidents(), 1);
        incident(x, 0, 4, 0, 132);
        x.pass(30);
        DUE.due("air", x.air(0), 5);
        DUE.due("it was not greater before", x.incidents(), 1);
        RamStation y = timed(10, 400, 1, 11, 1);
        y.setChamber(0, 59, false);
        y.start(0);
        y.pass(53 * 3);
        DUE.due("air", y.air(0), 6);
        DUE.due("incidents", y.incidents(), 0);
        y.pass(1);
        incident(y, 0, 4, 0, 159);
    }

    private static void airIsTheLeastSpaceAnew() {
        DUE.sentence("kind 4: also in a new chamber");
        RamStation x = timed(10, 400, 1, 11, 1);
        for (int time = 1; time <= 3; time++) {
            x.setChamber(0, 50, false);
            x.start(0);
            x.pass(150);
            x.stop(0);
            DUE.due("incidents", x.incidents(), time);
        }
    }

    private static void noAirIncidentWithASnifterValve() {
        DUE.sentence("kind 4: not where the air stays as it is");
        RamStation x = timed(10, 400, 1, 11, 1);
        x.setChamber(0, 50, true);
        x.start(0);
        x.pass(200);
        DUE.due("beats", x.beats(0), 67);
        DUE.due("incidents", x.incidents(), 0);
    }

    // The tank of pump 0 overflows in the tick at 1024, that of pump 1 is empty and its chamber too.
    private static void noneInTicksWithoutOne() {
        DUE.sentence("in a tick of the station the following incidents happen: no other pump's, no other tick's");
        RamStation x = new RamStation();
        x.addPump(20, 90, 18, 0, 30);
        x.setChamber(0, 400, true);
        x.addPump(10, 400, 1, 0, 11);
        x.setInflow(500);
        x.start(0);
        for (int i = 0; i < 5; i++) {
            x.pass(200);
        }
        x.pass(24);
        x.start(1);
        DUE.due("incidents", x.incidents(), 0);
        x.pass(1);
        DUE.due("incidents", x.incidents(), 1);
        incident(x, 0, 3, 0, 1024);
        x.stop(0);
        x.pass(5);
        DUE.due("incidents of pump 1", x.incidents(), 1);
    }

    private static void pumpsInTheirOrder() {
        DUE.sentence("the following incidents happen, in the order of the steps: by the numbers of the pumps");
        RamStation x = new RamStation();
        for (int pump = 0; pump < 4; pump++) {
            x.addPump(46 + pump, 100, 10, 0, 500);
            x.setValve(pump, 2, 1);
            x.setChamber(pump, 50, false);
        }
        for (int pump = 3; pump >= 0; pump--) {
            x.start(pump);
        }
        x.pass(2);
        DUE.due("incidents", x.incidents(), 4);
        for (int pump = 0; pump < 4; pump++) {
            incident(x, 3 - pump, 2, pump, 1);
        }
        incident(x, 4, NONE, NONE, NONE);
    }

    private static void starvingBeforeOverflowing() {
        DUE.sentence("the following incidents happen, in the order of the steps: 1 and 3 of one pump");
        RamStation x = timed(99, 10, 20, 100, 1);
        x.setChamber(0, 2000, true);
        x.setInflow(500);
        x.start(0);
        x.pass(200);
        x.pass(200);
        x.pass(175);
        int incidents = x.incidents();
        int starved = x.starved(0);
        int overflowed = x.overflowed(0);
        x.pass(1);
        DUE.due("it starves", x.starved(0), starved + 1);
        DUE.due("its tank overflows", x.overflowed(0) > overflowed);
        DUE.due("incidents", x.incidents(), incidents + 2);
        incident(x, 1, 1, 0, 575);
        incident(x, 0, 3, 0, 575);
    }

    private static void nineteenIncidents() {
        DUE.sentence("the station keeps the latest 20: of 19");
        RamStation x = starvedTimes(19);
        incident(x, 18, 1, 0, 2);
        incident(x, 0, 1, 0, 39);
        incident(x, 19, NONE, NONE, NONE);
    }

    private static void twentyIncidents() {
        DUE.sentence("the station keeps the latest 20: of 20");
        RamStation x = starvedTimes(20);
        incident(x, 19, 1, 0, 2);
        incident(x, 18, 1, 0, 5);
        incident(x, 0, 1, 0, 41);
        incident(x, 20, NONE, NONE, NONE);
    }

    private static void twentyOneIncidents() {
        DUE.sentence("the station keeps the latest 20: of 21");
        RamStation x = starvedTimes(21);
        incident(x, 19, 1, 0, 5);
        incident(x, 18, 1, 0, 7);
        incident(x, 0, 1, 0, 43);
        incident(x, 20, NONE, NONE, NONE);
        incident(x, Integer.MAX_VALUE, NONE, NONE, NONE);
        DUE.due("all are counted", x.incidents(), 21);
    }

    private static void allAreCounted() {
        DUE.sentence("the station counts all incidents");
        RamStation x = starvedTimes(500);
        DUE.due("incidents", x.incidents(), 500);
        for (int back = 0; back < 20; back++) {
            incident(x, back, 1, 0, 1001 - 2 * back);
        }
        incident(x, 20, NONE, NONE, NONE);
    }

    private static void trialsCauseNone() {
        DUE.sentence("trials cause no incidents");
        RamStation x = pushing(99);
        DUE.due("incidents", x.incidents(), 1);
        x.ticksToSlam(0);
        x.deliveredIn(0, 500);
        x.drawnIn(0, 500);
        x.period(0);
        x.bestLength(0, 300);
        x.bestSetting(0, 300);
        DUE.due("incidents after trials", x.incidents(), 1);
        incident(x, 0, 2, 0, 1);
        incident(x, 1, NONE, NONE, NONE);
    }

    private static void theyAreNotUndone() {
        DUE.sentence("everything but the text, the incidents ..");
        RamStation x = starvedTimes(3);
        x.undo();
        DUE.due("time", x.time(), 0);
        DUE.due("starved", x.starved(0), 0);
        DUE.due("incidents", x.incidents(), 3);
        incident(x, 0, 1, 0, 7);
        x.pass(3);
        DUE.due("incidents", x.incidents(), 4);
        incident(x, 0, 1, 0, 2);
        incident(x, 1, 1, 0, 7);
    }
}
