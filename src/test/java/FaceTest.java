import java.lang.reflect.Constructor;
import java.lang.reflect.Field;
import java.lang.reflect.Method;
import java.lang.reflect.Modifier;
import java.util.Set;
import java.util.TreeSet;

/** The public face as the document prints it, and rules 1, 2 and 5 of LANGUAGE.md as far as the class file tells. */
public final class FaceTest {
    private static final String[] FACE = {
        "int addMotor(int,int,int,int)", "int setNeed(int,int)", "int setLimit(int)", "int setFan(boolean)",
        "int request(int)", "int stop(int)", "int losePhases(int,int)", "int reset(int)", "int pass(int)",
        "int type(char)", "int clearText()", "int readTimetable()", "int undo()", "int keep()", "int restore()",
        "int motor(int,int)", "int account(int,int)", "int queue(int)", "int whyNot(int)", "int event(int,int)",
        "int item(int,int)", "int startHeat(int)", "int coolTime(int)", "int runTime(int)", "int longestRamp(int)",
        "int count(int)",
    };
    private static final String[] CONSTANTS = {"BAD_VALUE", "NONE", "REFUSED", "UNKNOWN"};

    public static void main(String[] args) {
        Check check = new Check();
        check.yes("the class is public and final",
                Modifier.isPublic(StarterBay.class.getModifiers()) && Modifier.isFinal(StarterBay.class.getModifiers()));
        checkMethods(check);
        checkFields(check);
        checkConstructors(check);
        for (Class<?> inside : StarterBay.class.getDeclaredClasses()) {
            check.yes(inside + " is static and not public", Modifier.isStatic(inside.getModifiers())
                    && !Modifier.isPublic(inside.getModifiers()) && !Modifier.isProtected(inside.getModifiers()));
        }
        check.due("UNKNOWN", StarterBay.UNKNOWN, -1);
        check.due("BAD_VALUE", StarterBay.BAD_VALUE, -2);
        check.due("REFUSED", StarterBay.REFUSED, -3);
        check.due("NONE", StarterBay.NONE, -4);
        check.end();
    }

    private static void checkMethods(Check check) {
        Set<String> publicOnes = new TreeSet<>();
        Set<String> publicNames = new TreeSet<>();
        for (Method method : StarterBay.class.getDeclaredMethods()) {
            if (Modifier.isPublic(method.getModifiers())) {
                publicOnes.add(signature(method));
                publicNames.add(method.getName());
            } else {
                check.yes(method + " is private", Modifier.isPrivate(method.getModifiers()));
            }
        }
        check.yes("the public methods are those of the face: " + publicOnes, publicOnes.equals(new TreeSet<>(Set.of(FACE))));
        for (Method method : StarterBay.class.getDeclaredMethods()) {
            check.yes(method + " does not bear a public name",
                    Modifier.isPublic(method.getModifiers()) || !publicNames.contains(method.getName()));
        }
        for (Class<?> inside : StarterBay.class.getDeclaredClasses()) {
            for (Method method : inside.getDeclaredMethods()) {
                check.yes(method + " does not bear a public name", !publicNames.contains(method.getName()));
            }
        }
    }

    private static String signature(Method method) {
        StringBuilder told = new StringBuilder(method.getReturnType() + " " + method.getName() + "(");
        for (Class<?> type : method.getParameterTypes()) {
            told.append(told.charAt(told.length() - 1) == '(' ? "" : ",").append(type.getName());
        }
        return told.append(")").toString();
    }

    private static void checkFields(Check check) {
        Set<String> publicOnes = new TreeSet<>();
        for (Field field : StarterBay.class.getDeclaredFields()) {
            if (Modifier.isPublic(field.getModifiers())) {
                publicOnes.add(field.getName());
            } else {
                check.yes(field + " is private", Modifier.isPrivate(field.getModifiers()));
            }
            if (Modifier.isStatic(field.getModifiers())) {
                check.yes(field + " is final", Modifier.isFinal(field.getModifiers()));
            }
        }
        check.yes("the public constants are those of the face", publicOnes.equals(new TreeSet<>(Set.of(CONSTANTS))));
    }

    private static void checkConstructors(Check check) {
        Constructor<?>[] found = StarterBay.class.getDeclaredConstructors();
        check.due("number of constructors", found.length, 1);
        check.yes("the constructor is public and takes nothing",
                Modifier.isPublic(found[0].getModifiers()) && found[0].getParameterCount() == 0);
    }
}
