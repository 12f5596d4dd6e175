import java.util.function.Function;
import java.util.function.ToIntFunction;

/** The calls that only answer: the readings and the trials. Each is made on one of two stations that are alike. */
public final class QuietCallsTest {
    private static final Due DUE = new Due("QuietCallsTest");

    public static void main(String[] args) {
        readingsOfTheStation();
        for (int pump = 0; pump < 3; pump++) {
            readingsOfAPump(pump);
            trials(pump);
        }
        DUE.end();
    }

    private static void quiet(String call, ToIntFunction<RamStation> called) {
        same(call, called, Readings::withUndo);
        same(call, called, Readings::withActs);
    }

    private static void same(String call, ToIntFunction<RamStation> called, Function<RamStation, int[]> read) {
        RamStation x = RefusalsTest.busy();
        int first = called.applyAsInt(x);
        DUE.due(call + " again", called.applyAsInt(x), first);
        int[] got = read.apply(x);
        int[] want = read.apply(RefusalsTest.busy());
        DUE.due(call + " changes nothing: readings", got.length, want.length);
        for (int i = 0; i < Math.min(got.length, want.length); i++) {
            DUE.due(call + " changes nothing: reading " + i, got[i], want[i]);
        }
    }

    private static void readingsOfTheStation() {
        DUE.sentence("'the station' and 'command texts': a reading changes nothing");
        quiet("time", RamStation::time);
        quiet("basin", RamStation::basin);
        quiet("spilled", RamStation::spilled);
        quiet("pumps", RamStation::pumps);
        quiet("incidents", RamStation::incidents);
        quiet("incidentKind", x -> x.incidentKind(3));
        quiet("incidentPump", x -> x.incidentPump(3));
        quiet("incidentTime", x -> x.incidentTime(3));
        quiet("bestPump", RamStation::bestPump);
        quiet("syntaxError", RamStation::syntaxError);
        quiet("failure", RamStation::failure);
    }

    private static void readingsOfAPump(int pump) {
        DUE.sentence("'a pump': a reading of pump " + pump + " changes nothing");
        quiet("phase", x -> x.phase(pump));
        quiet("speed", x -> x.speed(pump));
        quiet("openTicks", x -> x.openTicks(pump));
        quiet("chamberWater", x -> x.chamberWater(pump));
        quiet("air", x -> x.air(pump));
        quiet("chamberHead", x -> x.chamberHead(pump));
        quiet("beats", x -> x.beats(pump));
        quiet("wasted", x -> x.wasted(pump));
        quiet("relieved", x -> x.relieved(pump));
        quiet("lifted", x -> x.lifted(pump));
        quiet("overflowed", x -> x.overflowed(pump));
        quiet("starved", x -> x.starved(pump));
        quiet("tank", x -> x.tank(pump));
        quiet("interval", x -> x.interval(pump, 1));
        quiet("trace", x -> x.trace(pump, 1));
        quiet("efficiency", x -> x.efficiency(pump));
    }

    private static void trials(int pump) {
        DUE.sentence("a trial of pump " + pump + " changes nothing in the station");
        quiet("ticksToSlam", x -> x.ticksToSlam(pump));
        quiet("deliveredIn", x -> x.deliveredIn(pump, 500));
        quiet("drawnIn", x -> x.drawnIn(pump, 500));
        quiet("period", x -> x.period(pump));
        quiet("bestLength", x -> x.bestLength(pump, 300));
        quiet("bestSetting", x -> x.bestSetting(pump, 300));
    }
}
