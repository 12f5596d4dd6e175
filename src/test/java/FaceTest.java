import java.lang.reflect.Constructor;
import java.lang.reflect.Field;
import java.lang.reflect.Method;
import java.lang.reflect.Modifier;
import java.util.Arrays;
import java.util.TreeSet;

/** The public face is the document's and nothing more, and no private method bears the name of a public one. */
public final class FaceTest {
    private static final String[] METHODS = {
        "addPump(int,int,int,int,int)", "setValve(int,int,int)", "setChamber(int,int,boolean)", "setInflow(int)",
        "start(int)", "stop(int)", "emptyTank(int)", "pass(int)", "undo()", "type(int)", "clearText()",
        "syntaxError()", "execute()", "failure()", "time()", "basin()", "spilled()", "pumps()", "incidents()",
        "incidentKind(int)", "incidentPump(int)", "incidentTime(int)", "phase(int)", "speed(int)", "openTicks(int)",
        "chamberWater(int)", "air(int)", "chamberHead(int)", "beats(int)", "wasted(int)", "relieved(int)",
        "lifted(int)", "overflowed(int)", "starved(int)", "tank(int)", "interval(int,int)", "trace(int,int)",
        "efficiency(int)", "bestPump()", "ticksToSlam(int)", "deliveredIn(int,int)", "drawnIn(int,int)",
        "period(int)", "bestLength(int,int)", "bestSetting(int,int)"};

    public static void main(String[] args) {
        Due due = new Due("FaceTest");
        TreeSet<String> wanted = new TreeSet<>(Arrays.asList(METHODS));
        TreeSet<String> names = new TreeSet<>();
        for (String method : METHODS) {
            names.add(method.substring(0, method.indexOf('(')));
        }
        checkMethods(due, wanted, names);
        checkFields(due);
        for (Constructor<?> made : RamStation.class.getDeclaredConstructors()) {
            due.due("constructor is public, without arguments: " + made,
                    Modifier.isPublic(made.getModifiers()) && made.getParameterCount() == 0 ? 1 : 0, 1);
        }
        due.due("class is public and final", RamStation.class.getModifiers(), Modifier.PUBLIC | Modifier.FINAL);
        for (Class<?> inside : RamStation.class.getDeclaredClasses()) {
            int modifiers = inside.getModifiers();
            due.due(inside + " is static", Modifier.isStatic(modifiers));
            due.due(inside + " is private or package-visible",
                    !Modifier.isPublic(modifiers) && !Modifier.isProtected(modifiers));
        }
        due.end();
    }

    private static void checkMethods(Due due, TreeSet<String> wanted, TreeSet<String> names) {
        TreeSet<String> found = new TreeSet<>();
        for (Method method : RamStation.class.getDeclaredMethods()) {
            if (Modifier.isPublic(method.getModifiers())) {
                found.add(text(method));
                due.due(method.getName() + " answers an int", method.getReturnType() == int.class ? 1 : 0, 1);
            } else {
                due.due(method.getName() + " is private", Modifier.isPrivate(method.getModifiers()) ? 1 : 0, 1);
                due.due(method.getName() + " has a name of its own", names.contains(method.getName()) ? 1 : 0, 0);
            }
        }
        due.due("public methods " + found, found.equals(wanted) ? 1 : 0, 1);
    }

    private static void checkFields(Due due) {
        TreeSet<String> constants = new TreeSet<>();
        for (Field field : RamStation.class.getDeclaredFields()) {
            if (Modifier.isPublic(field.getModifiers())) {
                constants.add(field.getName());
                due.due(field.getName() + " is a constant int",
                        Modifier.isStatic(field.getModifiers()) && Modifier.isFinal(field.getModifiers())
                                && field.getType() == int.class ? 1 : 0, 1);
            } else {
                due.due(field.getName() + " is private", Modifier.isPrivate(field.getModifiers()) ? 1 : 0, 1);
            }
        }
        due.due("constants " + constants, constants.equals(new TreeSet<>(Arrays.asList(
                "NO_SUCH_PUMP", "BAD_VALUE", "NOT_POSSIBLE", "FULL", "NONE"))) ? 1 : 0, 1);
        due.due("NO_SUCH_PUMP", RamStation.NO_SUCH_PUMP, -1001);
        due.due("BAD_VALUE", RamStation.BAD_VALUE, -1002);
        due.due("NOT_POSSIBLE", RamStation.NOT_POSSIBLE, -1003);
        due.due("FULL", RamStation.FULL, -1004);
        due.due("NONE", RamStation.NONE, -1005);
    }

    private static String text(Method method) {
        StringBuilder text = new StringBuilder(method.getName()).append('(');
        for (Class<?> type : method.getParameterTypes()) {
            text.append(text.charAt(text.length() - 1) == '(' ? "" : ",").append(type.getName());
        }
        return text.append(')').toString();
    }
}
