import java.util.Arrays;

/** What can be found out about a station, to compare two of them. */
final class Readings {
    private final RamStation x;
    private final int[] answers = new int[512];
    private int count;

    private Readings(RamStation x) {
        this.x = x;
    }

    /** All values, then those of the recorded states, one after the other. */
    static int[] withUndo(RamStation x) {
        Readings readings = new Readings(x);
        readings.values();
        readings.trials();
        int left = x.undo();
        while (left >= 0) {
            readings.add(left, x.time(), x.basin(), x.spilled(), x.pumps(), x.phase(0), x.speed(0), x.chamberWater(0),
                    x.lifted(0), x.tank(1), x.air(1));
            left = x.undo();
        }
        readings.add(left, x.failure(), x.clearText());
        return readings.made();
    }

    /** All values, then what follows from the text and from the values that no method tells. */
    static int[] withActs(RamStation x) {
        Readings readings = new Readings(x);
        readings.values();
        readings.add(x.execute(), x.failure(), x.clearText(), x.setInflow(1), x.pass(9));
        readings.values();
        readings.rings();
        // The trials come last: a trial that changes something is to differ here, not to do so on both stations.
        readings.trials();
        for (int pump = 0; pump < 4; pump++) {
            readings.add(x.stop(pump), x.setValve(pump, 0, 1), x.setChamber(pump, 50, false));
        }
        return readings.made();
    }

    private void values() {
        add(x.time(), x.basin(), x.spilled(), x.pumps(), x.incidents(), x.incidentKind(0), x.incidentPump(0),
                x.incidentTime(0), x.incidentKind(19), x.incidentTime(19), x.failure(), x.syntaxError(), x.bestPump());
        for (int p = 0; p < 4; p++) {
            add(x.phase(p), x.speed(p), x.openTicks(p), x.chamberWater(p), x.air(p), x.chamberHead(p), x.beats(p),
                    x.wasted(p), x.relieved(p), x.lifted(p), x.overflowed(p), x.starved(p), x.tank(p));
            add(x.interval(p, 0), x.trace(p, 0), x.efficiency(p));
        }
    }

    private void rings() {
        for (int p = 0; p < 4; p++) {
            for (int back = 0; back < 16; back++) {
                add(x.interval(p, back), x.trace(p, back));
            }
        }
    }

    private void trials() {
        for (int p = 0; p < 4; p++) {
            add(x.ticksToSlam(p), x.drawnIn(p, 20), x.deliveredIn(p, 20));
        }
    }

    private void add(int... more) {
        for (int answer : more) {
            answers[count] = answer;
            count++;
        }
    }

    private int[] made() {
        return Arrays.copyOf(answers, count);
    }
}
