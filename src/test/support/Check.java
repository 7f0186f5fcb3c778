import java.lang.reflect.Method;
import java.lang.reflect.Modifier;
import java.util.Arrays;
import java.util.Comparator;

/** Compares answers with those that are due, and tells the ones that differ. */
final class Check {
    private static final int MOST_TOLD = 20;
    private static int wrong = 0;
    private static int looked = 0;

    private Check() {
    }

    static void due(String what, String got, String want) {
        looked++;
        if (!got.equals(want)) {
            wrong++;
            if (wrong <= MOST_TOLD) {
                System.out.println(what + " answered " + got + ", due is " + want);
            }
        }
    }

    static void due(String what, int got, int want) {
        // the texts are made only when they are told: there are millions of answers
        if (got == want) {
            looked++;
        } else {
            due(what, "" + got, "" + want);
        }
    }

    static void due(String what, boolean got, boolean want) {
        due(what, got ? 1 : 0, want ? 1 : 0);
    }

    /** Runs every method without parameters that is not private, so that no test can be written and then left out. */
    static void runAll(Class<?> tests) {
        Method[] methods = tests.getDeclaredMethods();
        Arrays.sort(methods, Comparator.comparing(Method::getName));
        int count = 0;
        for (Method each : methods) {
            if (each.getParameterCount() == 0 && !Modifier.isPrivate(each.getModifiers())) {
                runOne(each);
                count++;
            }
        }
        System.out.println(count + " tests in " + tests.getName());
    }

    private static void runOne(Method test) {
        int before = wrong;
        try {
            test.invoke(null);
        } catch (ReflectiveOperationException e) {
            wrong++;
            System.out.println(test.getName() + " ended with " + e.getCause());
        }
        if (wrong != before) {
            System.out.println("FAILED: " + test.getName());
        }
    }

    static void end() {
        System.out.println(looked + " answers, " + wrong + " not as due");
        if (looked == 0 || wrong != 0) {
            System.exit(1);
        }
    }
}
