import java.lang.reflect.InvocationTargetException;
import java.lang.reflect.Method;
import java.util.Arrays;
import java.util.Comparator;

/** Compares answers with those that are due and ends a test. */
final class Check {
    private static int compared = 0;
    private static int wrong = 0;
    private static String sentence = "";

    private Check() {
    }

    static void due(String call, long got, long want) {
        compared++;
        if (got != want) {
            fail(sentence + call + " answered " + got + ", due is " + want);
        }
    }

    static void that(boolean holds, String what) {
        compared++;
        if (!holds) {
            fail(sentence + what);
        }
    }

    private static void fail(String what) {
        wrong++;
        if (wrong <= 20) {
            System.out.println(what);
        }
    }

    /** Several answers of one kind: each call's name has its number behind it. */
    static void dueAll(String call, int[] got, int... want) {
        due(call + ": how many", got.length, want.length);
        for (int i = 0; i < Math.min(got.length, want.length); i++) {
            due(call + ", number " + i, got[i], want[i]);
        }
    }

    /** Runs every method of a test that takes nothing, so that none can be forgotten; each is one sentence's test. */
    static void all(Class<?> test) {
        Method[] methods = test.getDeclaredMethods();
        Arrays.sort(methods, Comparator.comparing(Method::getName));
        for (Method method : methods) {
            if (method.getParameterCount() == 0 && method.getReturnType() == void.class) {
                run(method);
            }
        }
        sentence = "";
    }

    private static void run(Method method) {
        sentence = method.getName() + ": ";
        int before = compared;
        try {
            method.invoke(null);
        } catch (InvocationTargetException | IllegalAccessException e) {
            fail(sentence + "it threw " + (e.getCause() == null ? e : e.getCause()));
        }
        that(compared > before, "nothing was compared");
    }

    static void end() {
        System.out.println(compared + " compared, " + wrong + " wrong");
        System.exit(wrong == 0 && compared > 0 ? 0 : 1);
    }

    static void type(SpilledGroups x, String text) {
        for (int i = 0; i < text.length(); i++) {
            x.type(text.charAt(i));
        }
    }

    /** A new object with these rows. */
    static SpilledGroups withRows(int... keysAndValues) {
        SpilledGroups x = new SpilledGroups();
        for (int i = 0; i + 1 < keysAndValues.length; i += 2) {
            x.row(keysAndValues[i], keysAndValues[i + 1]);
        }
        return x;
    }
}
