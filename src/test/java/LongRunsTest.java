/** Long mixed runs of calls, each answer compared with the model's. */
public final class LongRunsTest {
    private static final int RUNS = 1500;
    private static final int CALLS = 512;
    private static final String SIGNS = "rheswi0123456789=;;x";

    private final Due due;
    private final RamStation station = new RamStation();
    private final Model model = new Model();
    private final int run;
    private long seed;
    private int calls;

    private LongRunsTest(Due due, int run) {
        this.due = due;
        this.run = run;
        seed = 7919L * run + 17;
    }

    public static void main(String[] args) {
        Due due = new Due("LongRunsTest");
        for (int run = 0; run < RUNS && due.wrong() < 20; run++) {
            new LongRunsTest(due, run).go();
        }
        due.end();
    }

    // A sequence that is the same in every run of the test.
    private int below(int bound) {
        seed = seed * 6364136223846793005L + 1442695040888963407L;
        return (int) ((seed >>> 33) % bound);
    }

    private int between(int least, int most) {
        int pick = below(12);
        return pick == 0 ? least : pick == 1 ? most : least + below(most - least + 1);
    }

    /** Mostly within the range, sometimes just outside it. */
    private int around(int least, int most) {
        int pick = below(40);
        return pick == 0 ? least - 1 : pick == 1 ? most + 1 : pick == 2 ? wild() : between(least, most);
    }

    private int wild() {
        int[] far = {Integer.MIN_VALUE, Integer.MAX_VALUE, -1, 0, -1005};
        return far[below(far.length)];
    }

    private int aPump() {
        return below(25) == 0 ? around(-1, 5) : below(Math.max(model.pumps(), 1));
    }

    // What calls after the 512th answer is free.
    private void same(String call, long got, long want) {
        if (calls >= CALLS) {
            return;
        }
        due.due("run " + run + ", call " + calls + ": " + call, got, want);
        calls++;
    }

    private void go() {
        int pumps = 1 + below(4);
        for (int i = 0; i < pumps; i++) {
            addPump();
        }
        while (calls < CALLS && due.wrong() < 20) {
            int pick = below(100);
            if (pick < 30) {
                change();
            } else if (pick < 45) {
                typeText();
            } else if (pick < 52) {
                tryOut();
            } else if (pick < 56) {
                same("undo", station.undo(), model.undo());
            } else {
                look();
            }
        }
    }

    private void addPump() {
        int head = around(10, 99);
        int length = run % 3 == 0 ? around(10, 60) : around(10, 400);
        int area = around(1, 20);
        int friction = around(0, 100);
        int lift = below(2) == 0 ? around(head + 1, 500) : head + 1 + below(30);
        same("addPump", station.addPump(head, length, area, friction, lift),
                model.addPump(head, length, area, friction, lift));
    }

    private void change() {
        int pump = aPump();
        switch (below(12)) {
            case 0 -> addPump();
            case 1 -> {
                int kind = around(0, 2);
                int setting = below(2) == 0 ? around(1, 500) : around(1, 20);
                same("setValve", station.setValve(pump, kind, setting), model.setValve(pump, kind, setting));
            }
            case 2 -> {
                int volume = below(2) == 0 ? around(50, 2000) : around(50, 80);
                boolean snifter = below(2) == 0;
                same("setChamber", station.setChamber(pump, volume, snifter),
                        model.setChamber(pump, volume, snifter));
            }
            case 3 -> {
                int liters = around(0, 500);
                same("setInflow", station.setInflow(liters), model.setInflow(liters));
            }
            case 4, 5, 6 -> same("start", station.start(pump), model.start(pump));
            case 7 -> same("stop", station.stop(pump), model.stop(pump));
            case 8 -> same("emptyTank", station.emptyTank(pump), model.emptyTank(pump));
            default -> {
                int ticks = around(1, 200);
                same("pass " + ticks, station.pass(ticks), model.pass(ticks));
            }
        }
    }

    private void typeText() {
        if (below(3) == 0) {
            same("clearText", station.clearText(), model.clearText());
        }
        int signs = 1 + below(below(10) == 0 ? 45 : 12);
        if (below(5) == 0) {
            for (int i = 0; i < signs; i++) {
                typeSign(below(30) == 0 ? around(33, 126) : SIGNS.charAt(below(SIGNS.length())));
            }
        } else {
            for (char sign : commands().toCharArray()) {
                typeSign(sign);
            }
        }
        same("syntaxError", station.syntaxError(), model.syntaxError());
        same("execute", station.execute(), model.execute());
        same("failure", station.failure(), model.failure());
    }

    private void typeSign(int sign) {
        same("type " + sign, station.type(sign), model.type(sign));
    }

    private String commands() {
        StringBuilder text = new StringBuilder();
        int count = 1 + below(4);
        for (int i = 0; i < count; i++) {
            text.append(i > 0 ? ";" : "");
            int pump = below(20) == 0 ? 9 : below(model.pumps() + 1);
            switch (below(6)) {
                case 0 -> text.append('r').append(pump);
                case 1 -> text.append('h').append(pump);
                case 2 -> text.append('e').append(pump);
                case 3 -> text.append('s').append(pump).append('=').append(below(600));
                case 4 -> text.append('i').append(below(550));
                default -> text.append('w').append(below(220));
            }
        }
        return text.toString();
    }

    private void tryOut() {
        int pump = aPump();
        int ticks = around(1, 500);
        switch (below(6)) {
            case 0 -> same("ticksToSlam", station.ticksToSlam(pump), model.ticksToSlam(pump));
            case 1 -> same("deliveredIn", station.deliveredIn(pump, ticks), model.deliveredIn(pump, ticks));
            case 2 -> same("drawnIn", station.drawnIn(pump, ticks), model.drawnIn(pump, ticks));
            case 3 -> same("period", station.period(pump), model.period(pump));
            case 4 -> same("bestLength", station.bestLength(pump, ticks), model.bestLength(pump, ticks));
            default -> same("bestSetting", station.bestSetting(pump, ticks), model.bestSetting(pump, ticks));
        }
    }

    private void look() {
        int pump = aPump();
        if (below(3) == 0) {
            lookAtStation();
        } else if (below(3) == 0) {
            int back = around(0, 40);
            same("interval " + back, station.interval(pump, back), model.interval(pump, back));
            same("trace " + back, station.trace(pump, back), model.trace(pump, back));
            same("efficiency", station.efficiency(pump), model.efficiency(pump));
            same("bestPump", station.bestPump(), model.bestPump());
        } else {
            lookAtPump(pump);
        }
    }

    private void lookAtStation() {
        int back = around(0, 25);
        same("time", station.time(), model.time());
        same("basin", station.basin(), model.basin());
        same("spilled", station.spilled(), model.spilled());
        same("pumps", station.pumps(), model.pumps());
        same("incidents", station.incidents(), model.incidents());
        same("incidentKind", station.incidentKind(back), model.incident(0, back));
        same("incidentPump", station.incidentPump(back), model.incident(1, back));
        same("incidentTime", station.incidentTime(back), model.incident(2, back));
    }

    private void lookAtPump(int pump) {
        int[] got = {station.phase(pump), station.speed(pump), station.openTicks(pump), station.chamberWater(pump),
            station.air(pump), station.chamberHead(pump), station.beats(pump), station.wasted(pump),
            station.relieved(pump), station.lifted(pump), station.overflowed(pump), station.starved(pump),
            station.tank(pump)};
        long[] want = model.values(pump);
        for (int i = 0; i < got.length; i++) {
            same("value " + i + " of pump " + pump, got[i], want == null ? RamStation.NO_SUCH_PUMP : want[i]);
        }
    }
}
