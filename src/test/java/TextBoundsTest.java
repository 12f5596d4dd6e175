/** The bounds of 'Terms': command texts, and of the promises 11 to 15. One method for each sentence. */
public final class TextBoundsTest {
    private static final Due DUE = new Due("TextBoundsTest");
    private static final int NONE = RamStation.NONE;
    private static final String FORTY = "w200;w200;w200;w200;w200;w200;w200;w1;w1";

    public static void main(String[] args) {
        emptyText();
        codes();
        fortySigns();
        fortySignsFromEveryLength();
        typedAgainAfterFull();
        clearedLengths();
        oneCommand();
        semicolonBetween();
        digitsOfPumps();
        digitsOfNumbers();
        numberOfOneToThreeDigits();
        settingOfOneToThreeDigits();
        lettersOnly();
        equalsSign();
        endsTooEarly();
        errorAtTheLastOf40();
        errorBehindTheLastOf40();
        executeWithSyntaxError();
        executeStopsAtTheFirstFailure();
        executeAllCommands();
        executeMostCommands();
        textStays();
        oneActWithEightCommandsAndMore();
        oneActThoughTheFirstFails();
        failureBefore();
        failureOfEachCommand();
        failureStaysAfterSyntaxError();
        failureBecomesZero();
        boundsOfCommandNumbers();
        timeEndsInAText();
        DUE.end();
    }

    private static void write(RamStation x, String text) {
        x.clearText();
        for (char sign : text.toCharArray()) {
            x.type(sign);
        }
    }

    private static int run(RamStation x, String text) {
        write(x, text);
        return x.execute();
    }

    private static void error(String text, int want) {
        RamStation x = new RamStation();
        write(x, text);
        DUE.due("syntaxError of \"" + text + "\"", x.syntaxError(), want);
    }

    private static RamStation withPump() {
        RamStation x = new RamStation();
        x.addPump(20, 50, 5, 0, 30);
        return x;
    }

    private static void emptyText() {
        DUE.sentence("a text of at most 40 characters, at first empty; the empty text ends too early");
        RamStation x = new RamStation();
        DUE.due("syntaxError", x.syntaxError(), 0);
        DUE.due("execute", x.execute(), -2000);
        DUE.due("failure", x.failure(), NONE);
        DUE.due("clearText", x.clearText(), 0);
        DUE.due("type", x.type('w'), 1);
        DUE.due("clearText", x.clearText(), 1);
        DUE.due("syntaxError of the cleared", x.syntaxError(), 0);
        DUE.due("execute of the cleared", x.execute(), -2000);
    }

    private static void codes() {
        DUE.sentence("code of the character, 33 to 126");
        RamStation x = new RamStation();
        DUE.due("33", x.type(33), 1);
        DUE.due("126", x.type(126), 2);
        int[] wrong = {32, 127, 0, -1, 10, 128, 255, 'r' + 256, 'r' + 65536, 'r' - 256, Integer.MIN_VALUE,
            Integer.MAX_VALUE};
        for (int code : wrong) {
            DUE.due("" + code, x.type(code), RamStation.BAD_VALUE);
        }
        DUE.due("length", x.clearText(), 2);
    }

    private static void fortySigns() {
        DUE.sentence("FULL if the text has 40 characters");
        RamStation x = new RamStation();
        write(x, FORTY.substring(0, 39));
        DUE.due("the 40th", x.type(FORTY.charAt(39)), 40);
        DUE.due("the 41st", x.type('5'), RamStation.FULL);
        DUE.due("out of range and full", x.type(32), RamStation.BAD_VALUE);
        DUE.due("out of range and full", x.type(127), RamStation.BAD_VALUE);
        DUE.due("syntaxError", x.syntaxError(), NONE);
        DUE.due("the last command waits 1 tick, not 15", x.execute(), 9);
        DUE.due("time", x.time(), 1402);
        DUE.due("clearText", x.clearText(), 40);
    }

    private static void fortySignsFromEveryLength() {
        DUE.sentence("returns the new length of the text");
        RamStation x = new RamStation();
        for (int length = 1; length <= 40; length++) {
            DUE.due("type", x.type(33 + length), length);
        }
        DUE.due("type", x.type('r'), RamStation.FULL);
    }

    private static void typedAgainAfterFull() {
        DUE.sentence("FULL: not after clearText");
        RamStation x = new RamStation();
        write(x, FORTY);
        x.type('r');
        DUE.due("clearText", x.clearText(), 40);
        DUE.due("type", x.type('w'), 1);
        DUE.due("type", x.type('7'), 2);
        DUE.due("execute", x.execute(), 1);
        DUE.due("time", x.time(), 7);
    }

    private static void clearedLengths() {
        DUE.sentence("returns the previous length of the text");
        RamStation x = new RamStation();
        int[] lengths = {0, 1, 39, 40, 0};
        for (int length : lengths) {
            write(x, FORTY.substring(0, length));
            DUE.due("clearText", x.clearText(), length);
        }
    }

    private static void oneCommand() {
        DUE.sentence("a correct text is one or more commands");
        String[] texts = {"r0", "h0", "e0", "s0=1", "i0", "w1"};
        for (String text : texts) {
            error(text, NONE);
            error(text + ";" + text, NONE);
            error(text + ";" + text + ";" + text, NONE);
        }
    }

    private static void semicolonBetween() {
        DUE.sentence("with \";\" between two commands");
        error(";", 0);
        error(";r0", 0);
        error("r0;", 3);
        error("r0;;h0", 3);
        error("r0h0", 2);
        error("r0,h0", 2);
        error("r0:h0", 2);
        error("s0=1;", 5);
        error("s0=123;;", 7);
        error("w1;", 3);
        error("w123;", 5);
    }

    private static void digitsOfPumps() {
        DUE.sentence("a digit is one of the characters 0 to 9");
        for (char letter : "rhe".toCharArray()) {
            error(letter + "0", NONE);
            error(letter + "9", NONE);
            error(letter + "/", 1);
            error(letter + ":", 1);
            error(letter + "-1", 1);
            error(letter + "00", 2);
            error(letter + "10", 2);
        }
        error("s0=1", NONE);
        error("s9=1", NONE);
        error("s/=1", 1);
        error("s:=1", 1);
        error("s00=1", 2);
    }

    private static void digitsOfNumbers() {
        DUE.sentence("a number has digits, 0 to 9");
        String[] starts = {"i", "w", "s0=", "i1", "w1", "s0=1", "i12", "w12", "s0=12"};
        for (String start : starts) {
            error(start + "0", NONE);
            error(start + "9", NONE);
            error(start + "/", start.length());
            error(start + ":", start.length());
            error(start + "-", start.length());
        }
    }

    private static void numberOfOneToThreeDigits() {
        DUE.sentence("a number has 1 to 3 digits");
        for (char letter : "iw".toCharArray()) {
            error("" + letter, 1);
            error(letter + ";", 1);
            error(letter + "1", NONE);
            error(letter + "12", NONE);
            error(letter + "123", NONE);
            error(letter + "1234", 4);
            error(letter + "0000", 4);
            error(letter + "000", NONE);
        }
    }

    private static void settingOfOneToThreeDigits() {
        DUE.sentence("a number has 1 to 3 digits: a setting");
        error("s0=", 3);
        error("s0=;", 3);
        error("s0=1", NONE);
        error("s0=12", NONE);
        error("s0=123", NONE);
        error("s0=1234", 6);
        error("s0=000", NONE);
    }

    private static void lettersOnly() {
        DUE.sentence("the commands are r, h, e, s, i, w");
        for (char sign = 33; sign <= 126; sign++) {
            boolean begins = "rhesiw".indexOf(sign) >= 0;
            error("" + sign, begins ? 1 : 0);
            error("w1;" + sign, begins ? 4 : 3);
        }
    }

    private static void equalsSign() {
        DUE.sentence("\"s\", a digit, \"=\" and a number");
        error("s", 1);
        error("s=1", 1);
        error("s0", 2);
        error("s0;", 2);
        error("s0<1", 2);
        error("s0>1", 2);
        error("s01", 2);
        error("s0==1", 3);
        error("r0=1", 2);
        error("i=1", 1);
    }

    private static void endsTooEarly() {
        DUE.sentence("at its length if the text ends too early");
        String[] texts = {"", "r", "h", "e", "s", "s0", "s0=", "i", "w", "r0;", "r0;h", "w123;s1", "w123;s1="};
        for (String text : texts) {
            error(text, text.length());
            RamStation x = new RamStation();
            write(x, text);
            DUE.due("execute of \"" + text + "\"", x.execute(), -2000 - text.length());
        }
    }

    private static void errorAtTheLastOf40() {
        DUE.sentence("at the first character that is not allowed: the last of 40");
        String text = FORTY.substring(0, 39);
        error(text + "x", 39);
        RamStation x = new RamStation();
        DUE.due("execute", run(x, text + "x"), -2039);
        DUE.due("time", x.time(), 0);
        error("x" + FORTY.substring(1), 0);
    }

    private static void errorBehindTheLastOf40() {
        DUE.sentence("at its length if the text ends too early: a text of 40");
        String start = FORTY.substring(0, 35);
        error(start + "w111;", 40);
        error(start + "w1;s0", 40);
        RamStation x = new RamStation();
        DUE.due("execute", run(x, start + "w111;"), -2040);
        DUE.due("time", x.time(), 0);
        DUE.due("length", x.clearText(), 40);
    }

    private static void executeWithSyntaxError() {
        DUE.sentence("-2000 minus the index of the syntax error if the text has one (this is an error)");
        RamStation x = withPump();
        DUE.due("execute", run(x, "r0;w5;i7;x"), -2009);
        DUE.due("phase", x.phase(0), 0);
        DUE.due("time", x.time(), 0);
        DUE.due("inflow", x.setInflow(100), 100);
        x.undo();
        DUE.due("no act", x.undo(), 0);
    }

    private static void executeStopsAtTheFirstFailure() {
        DUE.sentence("in their order, up to the first one that fails; the effects before it remain");
        RamStation x = withPump();
        DUE.due("the second of four", run(x, "r0;r0;w5;i7"), 1);
        DUE.due("phase", x.phase(0), 1);
        DUE.due("time", x.time(), 0);
        DUE.due("the last of four", run(x, "w5;i7;h0;h0"), 3);
        DUE.due("phase", x.phase(0), 0);
        DUE.due("time", x.time(), 5);
        DUE.due("inflow", x.setInflow(100), 7);
        DUE.due("the first of two", run(x, "h0;w5"), 0);
        DUE.due("time", x.time(), 5);
    }

    private static void executeAllCommands() {
        DUE.sentence("the number of commands that were executed without failing: all");
        RamStation x = withPump();
        DUE.due("one", run(x, "w1"), 1);
        DUE.due("six", run(x, "s0=40;i500;r0;w200;h0;e0"), 6);
        DUE.due("time", x.time(), 201);
        DUE.due("tank", x.tank(0), 0);
        DUE.due("lifted", x.lifted(0) > 0);
        DUE.due("setting", x.setValve(0, 0, 60), 40);
    }

    private static void executeMostCommands() {
        DUE.sentence("one or more commands: 13 in 40 characters");
        RamStation x = withPump();
        DUE.due("13", run(x, "r0;h0;r0;h0;r0;h0;r0;h0;r0;h0;r0;h0;w123"), 13);
        DUE.due("length", x.clearText(), 40);
        DUE.due("time", x.time(), 123);
        DUE.due("one act", x.undo(), 1);
    }

    private static void textStays() {
        DUE.sentence("the text stays as it is");
        RamStation x = withPump();
        DUE.due("execute", run(x, "w3;i8"), 2);
        DUE.due("again", x.execute(), 2);
        DUE.due("time", x.time(), 6);
        DUE.due("after a failure", run(x, "w3;h0"), 1);
        DUE.due("again", x.execute(), 1);
        DUE.due("time", x.time(), 12);
        DUE.due("after a syntax error", run(x, "w3;"), -2003);
        DUE.due("clearText", x.clearText(), 3);
        write(x, "w4");
        x.undo();
        DUE.due("after undo", x.execute(), 1);
    }

    private static void oneActWithEightCommandsAndMore() {
        DUE.sentence("this is one act");
        RamStation x = new RamStation();
        x.setInflow(400);
        DUE.due("thirteen commands", run(x, "i1;i2;i3;i4;i5;i6;i7;i8;i9;i1;i2;i3;i4"), 13);
        DUE.due("undo", x.undo(), 1);
        DUE.due("inflow", x.setInflow(400), 400);
    }

    private static void oneActThoughTheFirstFails() {
        DUE.sentence("this is one act, even if the first command fails");
        RamStation x = new RamStation();
        DUE.due("execute", run(x, "r0;w1"), 0);
        DUE.due("undo", x.undo(), 0);
        DUE.due("execute", run(x, "w1;r0"), 1);
        DUE.due("execute", run(x, "w0"), 0);
        DUE.due("undo of the failed", x.undo(), 1);
        DUE.due("time", x.time(), 1);
        DUE.due("undo of the other", x.undo(), 0);
        DUE.due("time", x.time(), 0);
    }

    private static void failureBefore() {
        DUE.sentence("NONE if no correct text was executed yet");
        RamStation x = new RamStation();
        DUE.due("failure", x.failure(), NONE);
        DUE.due("a syntax error", run(x, "w"), -2001);
        DUE.due("failure", x.failure(), NONE);
        x.pass(0);
        DUE.due("failure of a call is none of a text", x.failure(), NONE);
        DUE.due("execute", run(x, "w1"), 1);
        DUE.due("failure", x.failure(), 0);
    }

    private static void failureOfEachCommand() {
        DUE.sentence("the error code of the command that failed");
        RamStation x = withPump();
        x.start(0);
        String[] texts = {"r1", "h1", "e1", "s1=60", "r9", "h9", "e9", "s9=0", "s0=0", "s0=501", "i501", "i999", "w0",
            "w000", "w201", "w999", "r0", "e0", "s0=60"};
        int[] codes = {-1001, -1001, -1001, -1001, -1001, -1001, -1001, -1001, -1002, -1002, -1002, -1002, -1002, -1002,
            -1002, -1002, -1003, -1003, -1003};
        for (int i = 0; i < texts.length; i++) {
            DUE.due("execute of " + texts[i], run(x, texts[i]), 0);
            DUE.due("failure of " + texts[i], x.failure(), codes[i]);
        }
        x.stop(0);
        DUE.due("execute of h0", run(x, "h0"), 0);
        DUE.due("failure of h0", x.failure(), RamStation.NOT_POSSIBLE);
    }

    private static void failureStaysAfterSyntaxError() {
        DUE.sentence("the latest execution of a correct text");
        RamStation x = withPump();
        run(x, "w201");
        DUE.due("execute", run(x, "w1;"), -2003);
        DUE.due("failure", x.failure(), RamStation.BAD_VALUE);
        run(x, "w1");
        DUE.due("execute", run(x, "w1;"), -2003);
        DUE.due("failure", x.failure(), 0);
    }

    private static void failureBecomesZero() {
        DUE.sentence("0 if all commands were executed");
        RamStation x = withPump();
        run(x, "r1");
        DUE.due("failure", x.failure(), RamStation.NO_SUCH_PUMP);
        run(x, "i0");
        DUE.due("failure", x.failure(), 0);
        x.undo();
        x.undo();
        DUE.due("failure after undo", x.failure(), 0);
    }

    private static void boundsOfCommandNumbers() {
        DUE.sentence("a command fails if the method with the same effect would return an error");
        RamStation x = withPump();
        DUE.due("the least that are allowed", run(x, "s0=1;i0;w1"), 3);
        DUE.due("the most that are allowed", run(x, "s0=500;i500;w200"), 3);
        DUE.due("time", x.time(), 201);
        DUE.due("basin", x.basin(), 20000);
        DUE.due("setting", x.setValve(0, 0, 60), 500);
        DUE.due("inflow", x.setInflow(100), 500);
        DUE.due("with zeros ahead", run(x, "s0=007;i050;w003"), 3);
        DUE.due("time", x.time(), 204);
        DUE.due("setting", x.setValve(0, 0, 60), 7);
        DUE.due("inflow", x.setInflow(100), 50);
    }

    private static void timeEndsInAText() {
        DUE.sentence("a command fails: no time is left for it");
        RamStation x = new RamStation();
        for (int i = 0; i < 99; i++) {
            x.pass(200);
        }
        DUE.due("199 and 1 ticks, then 1 too many", run(x, "w199;w1;w1;i3"), 2);
        DUE.due("failure", x.failure(), RamStation.NOT_POSSIBLE);
        DUE.due("time", x.time(), 20000);
        DUE.due("undo", x.undo(), 7);
        DUE.due("time", x.time(), 19800);
        DUE.due("a bad number is told first", run(x, "w200;w201"), 1);
        DUE.due("failure", x.failure(), RamStation.BAD_VALUE);
    }
}
