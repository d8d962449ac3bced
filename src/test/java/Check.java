import java.lang.reflect.InvocationTargetException;
import java.lang.reflect.Method;
import java.util.Arrays;
import java.util.Comparator;

/** Runs the tests of a class; counts and prints the answers that are not the ones that are due. */
final class Check {
    private int wrong = 0;
    private String part = "";

    /** Runs every static method of the class that takes a Check alone, so that none can be forgotten. */
    static void all(Class<?> tests) {
        Check check = new Check();
        Method[] methods = tests.getDeclaredMethods();
        Arrays.sort(methods, Comparator.comparing(Method::getName));
        int ran = 0;
        for (Method method : methods) {
            if (isTest(method)) {
                check.run(method);
                ran++;
            }
        }
        check.yes(tests + " has tests", ran > 0);
        check.end();
    }

    static boolean isTest(Method method) {
        return Arrays.equals(method.getParameterTypes(), new Class<?>[] {Check.class}) && !method.isSynthetic();
    }

    private void run(Method method) {
        Sentence sentence = method.getAnnotation(Sentence.class);
        part = method.getName() + (sentence == null ? "" : " (" + sentence.of() + ": " + sentence.says()[0] + ")");
        try {
            method.invoke(null, this);
        } catch (InvocationTargetException thrown) {
            wrong++;
            System.out.println(part + ": " + thrown.getCause());
        } catch (IllegalAccessException hidden) {
            wrong++;
            System.out.println(part + ": it can't be called: " + hidden);
        }
    }

    /** Names what the next checks belong to. */
    void part(String name) {
        part = name;
    }

    void due(String call, long got, long want) {
        if (got != want) {
            wrong++;
            System.out.println(part + ": " + call + " answered " + got + ", due is " + want);
        }
    }

    void yes(String what, boolean holds) {
        if (!holds) {
            wrong++;
            System.out.println(part + ": it does not hold that " + what);
        }
    }

    private void end() {
        if (wrong != 0) {
            System.out.println(wrong + " checks failed");
            System.exit(1);
        }
    }
}
