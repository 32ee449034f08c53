import java.lang.reflect.Method;
import java.util.Arrays;
import java.util.Comparator;

/** Counts the answers that are not as due; each test ends with exit code 1 if there was one. */
final class Check {
    static final long LONG_BAD = Long.MIN_VALUE + 2, LONG_NOT = Long.MIN_VALUE + 3;

    private static int made = 0, wrong = 0;
    private static String test = "";

    private Check() {
    }

    static void due(String call, long got, long want) {
        made++;
        if (got != want) {
            wrong++;
            System.out.println(test + call + " answered " + got + ", due is " + want);
        }
    }

    static void that(String what, boolean holds) {
        made++;
        if (!holds) {
            wrong++;
            System.out.println(test + "not so: " + what);
        }
    }

    static void end() {
        System.out.println(made + " checks, " + wrong + " wrong");
        if (wrong != 0 || made == 0) {
            System.exit(1);
        }
    }

    /** Runs each method that says for which words it stands, and tells these words where it fails. */
    static void runAll(Class<?> tests) throws ReflectiveOperationException {
        Method[] methods = tests.getDeclaredMethods();
        Arrays.sort(methods, Comparator.comparing(Method::getName));
        for (Method method : methods) {
            Says says = method.getAnnotation(Says.class);
            if (says != null) {
                test = method.getName() + " (promise " + says.promise() + ": " + says.words()[0] + "): ";
                int before = made;
                method.invoke(null);
                that("it checks something", made > before);
            }
        }
        test = "";
    }

    static void typeAll(HandInHand x, int text, String bytes) {
        x.wipe(text);
        for (int i = 0; i < bytes.length(); i++) {
            x.type(text, bytes.charAt(i));
        }
    }

    static HandInHand with(String fair, String order, String way) {
        HandInHand x = new HandInHand();
        typeAll(x, 0, fair);
        typeAll(x, 1, order);
        typeAll(x, 2, way);
        return x;
    }
}
