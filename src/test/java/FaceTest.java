import java.io.IOException;
import java.lang.reflect.Constructor;
import java.lang.reflect.Field;
import java.lang.reflect.Method;
import java.lang.reflect.Modifier;
import java.nio.file.Files;
import java.nio.file.Path;
import java.util.Set;
import java.util.TreeSet;
import java.util.regex.Matcher;
import java.util.regex.Pattern;

/** The public face as the document prints it, and rules 1, 2 and 5 of LANGUAGE.md as far as the class file tells. */
public final class FaceTest {
    private static final String[] FACE = {
        "int addMotor(int,int,int,int)", "int setNeed(int,int)", "int setLimit(int)", "int setFan(boolean)",
        "int request(int)", "int stop(int)", "int losePhases(int,int)", "int reset(int)", "int pass(int)",
        "int type(char)", "int clearText()", "int readTimetable()", "int undo()", "int keep()", "int restore()",
        "int motor(int,int)", "int account(int,int)", "int queue(int)", "int whyNot(int)", "int event(int,int)",
        "int item(int,int)", "int startHeat(int)", "int coolTime(int)", "int runTime(int)", "int longestRamp(int)",
        "int count(int)",
    };
    private static final String[] CONSTANTS = {"BAD_VALUE", "NONE", "REFUSED", "UNKNOWN"};

    public static void main(String[] args) {
        Check.all(FaceTest.class);
    }

    static void theClass(Check check) {
        check.yes("the class is public and final",
                Modifier.isPublic(StarterBay.class.getModifiers()) && Modifier.isFinal(StarterBay.class.getModifiers()));
        for (Class<?> inside : StarterBay.class.getDeclaredClasses()) {
            check.yes(inside + " is static and not public", Modifier.isStatic(inside.getModifiers())
                    && !Modifier.isPublic(inside.getModifiers()) && !Modifier.isProtected(inside.getModifiers()));
        }
    }

    @Sentence(of = "ERRORS", says = {
        "Ahead of the calls `addMotor`, `setNeed`, `setLimit`, `setFan` the interface says: ---- motors.",
        "Ahead of the calls `request`, `stop`, `losePhases`, `reset`, `pass` the interface says: ---- orders.",
        "Ahead of the calls `type`, `clearText`, `readTimetable` the interface says: ---- timetable.",
        "Ahead of the calls `undo`, `keep`, `restore` the interface says: ---- history.",
        "Ahead of the calls `motor`, `account`, `queue`, `whyNot`, `event`, `item` the interface says: ---- what is told.",
        "Ahead of the calls `startHeat`, `coolTime`, `runTime`, `longestRamp`, `count` the interface says: "
            + "---- forecasts; nothing changes."})
    static void theHeadings(Check check) throws IOException {
        StringBuilder found = new StringBuilder();
        for (String line : Files.readAllLines(Path.of("src/main/java/StarterBay.java"))) {
            Matcher call = Pattern.compile("^    public int (\\w+)\\(").matcher(line);
            if (line.startsWith("    // ---- ")) {
                found.append(line.substring(7)).append(": ");
            } else if (call.find()) {
                found.append(call.group(1)).append(' ');
            }
        }
        String due = "---- motors: addMotor setNeed setLimit setFan ---- orders: request stop losePhases reset pass "
                + "---- timetable: type clearText readTimetable ---- history: undo keep restore "
                + "---- what is told: motor account queue whyNot event item "
                + "---- forecasts; nothing changes: startHeat coolTime runTime longestRamp count ";
        check.yes("the headings stand ahead of their calls: " + found, found.toString().startsWith(due));
    }

    static void methods(Check check) {
        Set<String> publicOnes = new TreeSet<>();
        Set<String> publicNames = new TreeSet<>();
        for (Method method : StarterBay.class.getDeclaredMethods()) {
            if (Modifier.isPublic(method.getModifiers())) {
                publicOnes.add(signature(method));
                publicNames.add(method.getName());
            } else {
                check.yes(method + " is private", Modifier.isPrivate(method.getModifiers()));
            }
        }
        check.yes("the public methods are those of the face: " + publicOnes, publicOnes.equals(new TreeSet<>(Set.of(FACE))));
        for (Method method : StarterBay.class.getDeclaredMethods()) {
            check.yes(method + " does not bear a public name",
                    Modifier.isPublic(method.getModifiers()) || !publicNames.contains(method.getName()));
        }
        for (Class<?> inside : StarterBay.class.getDeclaredClasses()) {
            for (Method method : inside.getDeclaredMethods()) {
                check.yes(method + " does not bear a public name", !publicNames.contains(method.getName()));
            }
        }
    }

    private static String signature(Method method) {
        StringBuilder told = new StringBuilder(method.getReturnType() + " " + method.getName() + "(");
        for (Class<?> type : method.getParameterTypes()) {
            told.append(told.charAt(told.length() - 1) == '(' ? "" : ",").append(type.getName());
        }
        return told.append(")").toString();
    }

    static void fields(Check check) {
        Set<String> publicOnes = new TreeSet<>();
        for (Field field : StarterBay.class.getDeclaredFields()) {
            if (Modifier.isPublic(field.getModifiers())) {
                publicOnes.add(field.getName());
            } else {
                check.yes(field + " is private", Modifier.isPrivate(field.getModifiers()));
            }
            if (Modifier.isStatic(field.getModifiers())) {
                check.yes(field + " is final", Modifier.isFinal(field.getModifiers()));
            }
        }
        check.yes("the public constants are those of the face", publicOnes.equals(new TreeSet<>(Set.of(CONSTANTS))));
    }

    static void constructors(Check check) {
        Constructor<?>[] found = StarterBay.class.getDeclaredConstructors();
        check.due("number of constructors", found.length, 1);
        check.yes("the constructor is public and takes nothing",
                Modifier.isPublic(found[0].getModifiers()) && found[0].getParameterCount() == 0);
    }
}
