import java.io.IOException;
import java.lang.reflect.Method;
import java.lang.reflect.Modifier;
import java.nio.file.Files;
import java.nio.file.Path;
import java.util.ArrayDeque;

/** The calls that README.md shows answer what it says there. It is read from the project's directory. */
public final class ReadmeTest {
    private static final Due DUE = new Due("ReadmeTest");

    public static void main(String[] args) throws IOException {
        String readme = Files.readString(Path.of("README.md"));
        ArrayDeque<String> shown = shownCalls(readme);
        firstSteps(shown);
        commandText(shown);
        DUE.due("calls that README.md shows and no test makes", shown.size(), 0);
        constants(readme);
        for (Method method : RamStation.class.getDeclaredMethods()) {
            if (Modifier.isPublic(method.getModifiers())) {
                String name = method.getName();
                DUE.due("README.md names " + name, readme.matches("(?s).*\\b" + name + "\\b.*"));
            }
        }
        DUE.due("README.md says how its tests are run", readme.contains(".ci/run"));
        DUE.end();
    }

    private static void firstSteps(ArrayDeque<String> shown) {
        RamStation station = new RamStation();
        int pump = station.addPump(20, 50, 5, 0, 30);
        answers(shown, "int pump = station.addPump(20, 50, 5, 0, 30);", pump);
        answers(shown, "station.setValve(pump, 0, 80);", station.setValve(pump, 0, 80));
        answers(shown, "station.setChamber(pump, 600, true);", station.setChamber(pump, 600, true));
        answers(shown, "station.setInflow(50);", station.setInflow(50));
        answers(shown, "station.start(pump);", station.start(pump));
        answers(shown, "station.pass(100);", station.pass(100));
        answers(shown, "station.time();", station.time());
        answers(shown, "station.basin();", station.basin());
        answers(shown, "station.phase(pump);", station.phase(pump));
        answers(shown, "station.beats(pump);", station.beats(pump));
        answers(shown, "station.interval(pump, 0);", station.interval(pump, 0));
        answers(shown, "station.efficiency(pump);", station.efficiency(pump));
        answers(shown, "station.incidents();", station.incidents());
        answers(shown, "station.incidentKind(0);", station.incidentKind(0));
        answers(shown, "station.start(pump);", station.start(pump));
        answers(shown, "station.start(1);", station.start(1));
        answers(shown, "station.emptyTank(pump);", station.emptyTank(pump));
        answers(shown, "station.stop(pump);", station.stop(pump));
        answers(shown, "station.undo();", station.undo());
        DUE.due("it runs again after undo", station.phase(pump), 1);
    }

    private static void commandText(ArrayDeque<String> shown) {
        RamStation typed = new RamStation();
        answers(shown, "typed.addPump(20, 50, 5, 0, 30);", typed.addPump(20, 50, 5, 0, 30));
        for (char sign : "i50;r0;w100;r0;w9".toCharArray()) {
            typed.type(sign);
        }
        answers(shown, "typed.syntaxError();", typed.syntaxError());
        answers(shown, "typed.execute();", typed.execute());
        answers(shown, "typed.failure();", typed.failure());
        answers(shown, "typed.undo();", typed.undo());
        answers(shown, "typed.clearText();", typed.clearText());
        answers(shown, "typed.execute();", typed.execute());
    }

    private static void constants(String readme) {
        constant(readme, "NO_SUCH_PUMP", RamStation.NO_SUCH_PUMP);
        constant(readme, "BAD_VALUE", RamStation.BAD_VALUE);
        constant(readme, "NOT_POSSIBLE", RamStation.NOT_POSSIBLE);
        constant(readme, "FULL", RamStation.FULL);
        constant(readme, "NONE", RamStation.NONE);
    }

    private static void constant(String readme, String name, int number) {
        DUE.due("README.md has a row of " + name,
                readme.replaceAll(" +", " ").contains("| `" + name + "` | " + number + " | "));
    }

    /** The lines of README.md that tell what a call answers: "call // answer". */
    private static ArrayDeque<String> shownCalls(String readme) {
        ArrayDeque<String> calls = new ArrayDeque<>();
        boolean inJava = false;
        for (String line : readme.split("\n")) {
            if (line.startsWith("```")) {
                inJava = line.equals("```java");
            } else if (inJava && line.contains("//")) {
                calls.add(line);
            }
        }
        return calls;
    }

    private static void answers(ArrayDeque<String> shown, String call, int got) {
        String line = shown.isEmpty() ? "//" : shown.remove();
        int comment = line.indexOf("//");
        DUE.due("README.md shows here: " + call + " (it shows: " + line + ")",
                line.substring(0, comment).trim().equals(call));
        String told = line.substring(comment + 2).trim().split(":")[0];
        DUE.due(call + " answers what README.md says: " + told, said(told, got));
    }

    private static boolean said(String told, int got) {
        switch (got) {
            case RamStation.NO_SUCH_PUMP:
                return told.equals("NO_SUCH_PUMP");
            case RamStation.BAD_VALUE:
                return told.equals("BAD_VALUE");
            case RamStation.NOT_POSSIBLE:
                return told.equals("NOT_POSSIBLE");
            case RamStation.FULL:
                return told.equals("FULL");
            case RamStation.NONE:
                return told.equals("NONE");
            default:
                return told.equals(String.valueOf(got));
        }
    }
}
