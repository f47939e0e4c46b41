/** Promises 9 to 11: passOf, spillOf, total. */
public final class PassesTest {
    private static final int INVALID = SpilledGroups.INVALID_ARGUMENT;
    private static final int MISSING = SpilledGroups.NOT_FOUND;

    public static void main(String[] args) {
        promise9PassOf();
        promise9PassOfAllLevels();
        promise9PassOfWrong();
        promise10SpillOf();
        promise10SpillOfGrowingFile();
        promise10SpillOfWrong();
        promise11Total();
        promise11TotalBeyond();
        promise11TotalOfMostPasses();
        promise11TotalWrong();
        Check.end();
    }

    private static void duePass(SpilledGroups x, int level, int prefix, int... numbers) {
        for (int what = 0; what < numbers.length; what++) {
            Check.due("passOf(" + level + ", " + prefix + ", " + what + ")", x.passOf(level, prefix, what), numbers[what]);
        }
    }

    private static void dueSpill(SpilledGroups x, int spill, int... numbers) {
        for (int what = 0; what < numbers.length; what++) {
            Check.due("spillOf(" + spill + ", " + what + ")", x.spillOf(spill, what), numbers[what]);
        }
    }

    private static void dueTotals(SpilledGroups x, int... numbers) {
        for (int what = 0; what < numbers.length; what++) {
            Check.due("total(" + what + ")", x.total(what), numbers[what]);
        }
    }

    private static void promise9PassOf() {
        SpilledGroups x = Examples.twoSpills();
        duePass(x, 0, 0, 6, 2, 12, 4, 2, 0);
        duePass(x, 1, 2, 3, 2, 0, 0, 2, 1);
        duePass(x, 1, 3, 1, 1, 0, 0, 1, 2);
        duePass(x, 0, 1, MISSING);
        duePass(x, 1, 1, MISSING);
        duePass(x, 2, 32, MISSING);
        duePass(new SpilledGroups(), 0, 0, 0, 0, 0, 0, 0, 0);
    }

    private static void promise9PassOfAllLevels() {
        SpilledGroups x = Examples.alike();
        duePass(x, 0, 0, 2, 0, 4, 2, 1, 0);
        duePass(x, 1, 2, 2, 0, 1, 2, 1, 1);
        duePass(x, 2, 32, 2, 0, 1, 2, 1, 2);
        duePass(x, 3, 512, 2, 2, 0, 0, 2, 3);
        duePass(x, 4, 8192, MISSING);
        x.set(1, 1);
        duePass(x, 15, 4096, 2, 2, 0, 0, 2, 15);
        duePass(x, 14, 2048, 2, 0, 1, 2, 1, 14);
        x.set(1, 3);
        // 8192 is 001 000 000 000 000 0: five levels, the last bit is left.
        duePass(x, 4, 512, 2, 2, 0, 0, 2, 4);
    }

    private static void promise9PassOfWrong() {
        SpilledGroups x = Examples.twoSpills();
        int[][] wrong = {{-1, 0, 0}, {16, 0, 0}, {0, -1, 0}, {0, 65536, 0}, {0, 0, -1}, {0, 0, 6}, {5, 5, 6}};
        for (int[] w : wrong) {
            Check.due("passOf(" + w[0] + ", " + w[1] + ", " + w[2] + ")", x.passOf(w[0], w[1], w[2]), INVALID);
        }
        Check.due("passOf(15, 65535, 5)", x.passOf(15, 65535, 5), MISSING);
    }

    private static void promise10SpillOf() {
        SpilledGroups x = Examples.twoSpills();
        dueSpill(x, 0, 0, 0, 2, 2, 3);
        dueSpill(x, 1, 0, 0, 3, 1, 1);
        dueSpill(x, 2, MISSING);
        SpilledGroups y = Examples.alike();
        dueSpill(y, 0, 0, 0, 2, 1, 2);
        dueSpill(y, 1, 1, 2, 0, 1, 2);
        dueSpill(y, 2, 2, 32, 0, 1, 2);
        dueSpill(y, 3, MISSING);
    }

    /** Rows of a key that is spilled go to the file one by one. */
    private static void promise10SpillOfGrowingFile() {
        SpilledGroups x = Examples.alike();
        x.row(273, 3);
        x.row(273, 4);
        dueSpill(x, 0, 0, 0, 2, 1, 4);
        // In the file the group of 273 is ahead of 274, and of its other rows.
        dueSpill(x, 1, 1, 2, 0, 1, 4);
        Check.due("written", x.total(3), 12);
    }

    private static void promise10SpillOfWrong() {
        SpilledGroups x = Examples.twoSpills();
        int[][] wrong = {{-1, 0}, {0, -1}, {0, 5}, {9, 5}, {Integer.MIN_VALUE, 0}};
        for (int[] w : wrong) {
            Check.due("spillOf(" + w[0] + ", " + w[1] + ")", x.spillOf(w[0], w[1]), INVALID);
        }
        Check.due("spillOf(most, 0)", x.spillOf(Integer.MAX_VALUE, 0), MISSING);
        Check.due("spillOf of none", new SpilledGroups().spillOf(0, 0), MISSING);
    }

    private static void promise11Total() {
        SpilledGroups x = Examples.twoSpills();
        dueTotals(x, 5, 3, 2, 4, 4, 1, 2, 0);
        x.set(0, 5);
        dueTotals(x, 5, 1, 0, 0, 0, 0, 5, 0);
        x.undo();
        dueTotals(x, 5, 3, 2, 4, 4, 1, 2, 0);
    }

    private static void promise11TotalBeyond() {
        SpilledGroups x = Examples.alike();
        dueTotals(x, 2, 4, 3, 6, 6, 3, 2, 1);
        x.set(1, 3);
        dueTotals(x, 2, 5, 4, 8, 8, 4, 2, 1);
        x.set(1, 2);
        dueTotals(x, 2, 8, 7, 14, 14, 7, 2, 1);
        x.set(1, 1);
        dueTotals(x, 2, 16, 15, 30, 30, 15, 2, 1);
        x.set(0, 2);
        dueTotals(x, 2, 1, 0, 0, 0, 0, 2, 0);
    }

    /** 50 pairs of keys, spread over the first six bits of the hash, each pair alike but for the last bit. */
    private static void promise11TotalOfMostPasses() {
        SpilledGroups x = new SpilledGroups();
        x.set(0, 1);
        x.set(1, 1);
        x.set(2, 15745);
        for (int pair = 0; pair < 50; pair++) {
            int key = keyWithEvenHashFrom(pair * 64 / 50 * 1024);
            x.row(key, 0);
            x.row(key + 641, 0);
        }
        // 63 passes on the levels 0 to 5, 50 on each of the levels 6 to 15; every row goes down to the level 15.
        dueTotals(x, 100, 563, 562, 1500, 1500, 15, 2, 50);
        int last = x.rowOf(99, 2) / 2;
        duePass(x, 15, last, 2, 2, 0, 0, 2, 562);
        dueSpill(x, 561, 14, last / 2, last % 2, 1, 2);
        Check.due("groups", x.skewed(2), 50);
    }

    /** As 15745 * 641 is 1 modulo 65536, a key that is 641 more has a hash that is 1 more. */
    private static int keyWithEvenHashFrom(int hash) {
        for (int h = hash; h < hash + 1024; h += 2) {
            int key = Math.floorMod((h - 7919) * 641, 65536);
            if (key + 641 <= 9999) {
                return key;
            }
        }
        throw new IllegalStateException("no key has a hash from " + hash);
    }

    private static void promise11TotalWrong() {
        SpilledGroups x = Examples.twoSpills();
        for (int what : new int[] {-1, 8, Integer.MIN_VALUE, Integer.MAX_VALUE}) {
            Check.due("total(" + what + ")", x.total(what), INVALID);
        }
    }
}
