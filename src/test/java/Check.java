/** Compares answers with those that are due and ends a test. */
final class Check {
    private static int compared = 0;
    private static int wrong = 0;

    private Check() {
    }

    static void due(String call, long got, long want) {
        compared++;
        if (got != want) {
            fail(call + " answered " + got + ", due is " + want);
        }
    }

    static void that(boolean holds, String what) {
        compared++;
        if (!holds) {
            fail(what);
        }
    }

    private static void fail(String what) {
        wrong++;
        if (wrong <= 20) {
            System.out.println(what);
        }
    }

    static void end() {
        System.out.println(compared + " compared, " + wrong + " wrong");
        System.exit(wrong == 0 && compared > 0 ? 0 : 1);
    }

    static void type(SpilledGroups x, String text) {
        for (int i = 0; i < text.length(); i++) {
            x.type(text.charAt(i));
        }
    }

    /** A new object with these rows. */
    static SpilledGroups withRows(int... keysAndValues) {
        SpilledGroups x = new SpilledGroups();
        for (int i = 0; i + 1 < keysAndValues.length; i += 2) {
            x.row(keysAndValues[i], keysAndValues[i + 1]);
        }
        return x;
    }
}
