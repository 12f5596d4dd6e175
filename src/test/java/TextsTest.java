/** Promises 11 to 15: command texts. */
public final class TextsTest {
    private static final Due DUE = new Due("TextsTest");

    public static void main(String[] args) {
        type();
        clearText();
        syntaxErrors();
        everySignAtEveryPlace();
        execute();
        executeIsOneAct();
        failures();
        numbers();
        longestText();
        DUE.end();
    }

    private static void write(RamStation x, String text) {
        x.clearText();
        for (char sign : text.toCharArray()) {
            x.type(sign);
        }
    }

    private static int run(RamStation x, String text) {
        write(x, text);
        return x.execute();
    }

    // Promise 11
    private static void type() {
        RamStation x = new RamStation();
        DUE.due("too low", x.type(32), RamStation.BAD_VALUE);
        DUE.due("too high", x.type(127), RamStation.BAD_VALUE);
        DUE.due("'r' and 65536", x.type('r' + 65536), RamStation.BAD_VALUE);
        DUE.due("least", x.type(33), 1);
        DUE.due("most", x.type(126), 2);
        for (int length = 3; length <= 40; length++) {
            DUE.due("length", x.type('r'), length);
        }
        DUE.due("full", x.type('r'), RamStation.FULL);
        DUE.due("full and bad", x.type(32), RamStation.BAD_VALUE);
        DUE.due("no act", x.undo(), RamStation.NONE);
        DUE.due("length", x.clearText(), 40);
        DUE.due("from the start", x.type('r'), 1);
    }

    // Promise 12
    private static void clearText() {
        RamStation x = new RamStation();
        DUE.due("empty", x.clearText(), 0);
        write(x, "w1;w2");
        DUE.due("five", x.clearText(), 5);
        DUE.due("empty", x.clearText(), 0);
        DUE.due("the empty text ends too early", x.syntaxError(), 0);
        write(x, "w");
        DUE.due("nothing is left of the old text", x.syntaxError(), 1);
    }

    // Promise 13
    private static void syntaxErrors() {
        String[] correct = {"r0", "h9", "e3", "s0=1", "s9=12", "s4=123", "i0", "i12", "i123", "w1", "w000",
            "r0;h1", "w12;h3", "s0=1;w999;i5;e0;h0;r0"};
        for (String text : correct) {
            error(text, RamStation.NONE);
        }
        error("", 0);
        error("r", 1);
        error("rr", 1);
        error("r00", 2);
        error("r0;", 3);
        error("r0;;", 3);
        error("r0h0", 2);
        error("r0,h0", 2);
        error(";", 0);
        error(";r0", 0);
        error("0", 0);
        error("R0", 0);
        error("=", 0);
        error("s", 1);
        error("s=", 1);
        error("s0", 2);
        error("s01", 2);
        error("s0;", 2);
        error("s0=", 3);
        error("s0=;", 3);
        error("s0==", 3);
        error("s0=1=", 4);
        error("s0=1234", 6);
        error("s0=123x", 6);
        error("i", 1);
        error("i;", 1);
        error("i-1", 1);
        error("i1=", 2);
        error("i12r0", 3);
        error("w1234", 4);
        error("w1;i", 4);
        error("w1;x", 3);
        error("e:", 1);
        error("e/", 1);
    }

    private static void error(String text, int want) {
        RamStation x = new RamStation();
        write(x, text);
        DUE.due("syntaxError of \"" + text + "\"", x.syntaxError(), want);
        if (want != RamStation.NONE) {
            DUE.due("execute of \"" + text + "\"", x.execute(), -2000 - want);
            DUE.due("failure after \"" + text + "\"", x.failure(), RamStation.NONE);
            DUE.due("no act in \"" + text + "\"", x.undo(), RamStation.NONE);
        }
    }

    private static void everySignAtEveryPlace() {
        String[] starts = {"", "r", "r0", "s", "s0", "s0=", "s0=1", "s0=12", "s0=123", "i", "i1", "i12", "i123", "w9;",
            "h1;e"};
        for (String start : starts) {
            for (char sign = 33; sign <= 126; sign++) {
                RamStation x = new RamStation();
                write(x, start + sign);
                DUE.due("syntaxError of \"" + start + sign + "\"", x.syntaxError(), Model.syntaxError(start + sign));
            }
        }
    }

    // Promise 14
    private static void execute() {
        RamStation x = new RamStation();
        x.addPump(20, 50, 5, 0, 30);
        DUE.due("all", run(x, "s0=80;i200;r0;w24;h0"), 5);
        DUE.due("time", x.time(), 24);
        DUE.due("stopped", x.phase(0), 0);
        DUE.due("the text stays", x.execute(), 5);
        DUE.due("and does the same again", x.time(), 48);
        DUE.due("the tank is not empty", x.tank(0) > 0 ? 1 : 0, 1);
        DUE.due("emptied", run(x, "e0"), 1);
        DUE.due("empty", x.tank(0), 0);
        DUE.due("the kind stays", x.setValve(0, 2, 7), 80);
        DUE.due("a new setting", run(x, "s0=9"), 1);
        DUE.due("timed still", x.ticksToSlam(0), 9);
        DUE.due("inflow", x.setInflow(0), 200);
    }

    private static void executeIsOneAct() {
        RamStation x = new RamStation();
        x.addPump(20, 50, 5, 0, 30);
        DUE.due("three", run(x, "i50;w2;i60"), 3);
        DUE.due("one act", x.undo(), 1);
        DUE.due("inflow as before", x.setInflow(100), 100);
        DUE.due("time as before", x.time(), 0);
        DUE.due("the third fails", run(x, "i50;w2;r7;i60"), 2);
        DUE.due("effects remain", x.time(), 2);
        DUE.due("the rest is not done", x.setInflow(50), 50);
        DUE.due("first fails", run(x, "r7;w3"), 0);
        DUE.due("time", x.time(), 2);
        DUE.due("one act all the same", x.undo(), 4);
        DUE.due("the one before", x.undo(), 3);
        x.start(0);
        DUE.due("a method records again after a text", x.undo(), 3);
    }

    // Promise 15
    private static void failures() {
        RamStation x = new RamStation();
        x.addPump(20, 50, 5, 0, 30);
        String[] texts = {"w1", "r9", "h1", "e4", "s5=1", "s0=0", "s0=501", "i501", "w0", "w201", "h0", "e0", "i500"};
        int[] codes = {0, RamStation.NO_SUCH_PUMP, RamStation.NO_SUCH_PUMP, RamStation.NO_SUCH_PUMP,
            RamStation.NO_SUCH_PUMP, RamStation.BAD_VALUE, RamStation.BAD_VALUE, RamStation.BAD_VALUE,
            RamStation.BAD_VALUE, RamStation.BAD_VALUE, RamStation.NOT_POSSIBLE, RamStation.NOT_POSSIBLE, 0};
        for (int i = 0; i < texts.length; i++) {
            DUE.due("execute " + texts[i], run(x, texts[i]), codes[i] == 0 ? 1 : 0);
            DUE.due("failure of " + texts[i], x.failure(), codes[i]);
        }
        DUE.due("running", run(x, "r0;s0=5"), 1);
        DUE.due("failure", x.failure(), RamStation.NOT_POSSIBLE);
        DUE.due("a syntax error", run(x, "w5;"), -2003);
        DUE.due("is no execution", x.failure(), RamStation.NOT_POSSIBLE);
        DUE.due("time", x.time(), 1);
        DUE.due("a setting out of range is told before the running", run(x, "s0=0"), 0);
        DUE.due("failure", x.failure(), RamStation.BAD_VALUE);
    }

    private static void numbers() {
        RamStation x = new RamStation();
        DUE.due("leading zeros", run(x, "w007;i020"), 2);
        DUE.due("time", x.time(), 7);
        DUE.due("inflow", x.setInflow(0), 20);
        DUE.due("three digits", run(x, "w198;i345"), 2);
        DUE.due("time", x.time(), 205);
        DUE.due("inflow", x.setInflow(0), 345);
        for (int i = 0; i < 4; i++) {
            x.addPump(20, 50, 5, 0, 30);
        }
        DUE.due("the digit tells the pump", run(x, "s0=1;s1=22;s2=333;s3=400;r2"), 5);
        DUE.due("0", x.setValve(0, 0, 60), 1);
        DUE.due("1", x.setValve(1, 0, 60), 22);
        DUE.due("3", x.setValve(3, 0, 60), 400);
        DUE.due("2", x.phase(2), 1);
        x.stop(2);
        DUE.due("2", x.setValve(2, 0, 60), 333);
    }

    private static void longestText() {
        RamStation x = new RamStation();
        DUE.due("40 signs", run(x, "w200;w200;w200;w200;w200;w200;w200;w1;w1"), 9);
        DUE.due("time", x.time(), 1402);
        DUE.due("length", x.clearText(), 40);
        DUE.due("one act", x.undo(), 0);
        DUE.due("time", x.time(), 0);
        for (int i = 0; i < 100; i++) {
            x.pass(200);
        }
        DUE.due("no time is left", run(x, "i5;w1"), 1);
        DUE.due("failure", x.failure(), RamStation.NOT_POSSIBLE);
    }
}
