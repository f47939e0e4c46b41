/** Promises 12 to 15: written, bestBits, enough, skewed. */
public final class WouldBeTest {
    private static final int INVALID = SpilledGroups.INVALID_ARGUMENT;

    public static void main(String[] args) {
        promise12Written();
        promise12WrittenWrong();
        promise13BestBits();
        promise13BestBitsWrong();
        promise14Enough();
        promise15Skewed();
        promise15SkewedWrong();
        Check.end();
    }

    private static void promise12Written() {
        SpilledGroups x = Examples.alike();
        int[] items = {30, 14, 8, 6};
        for (int bits = 1; bits <= 4; bits++) {
            Check.due("written(1, " + bits + ")", x.written(1, bits), items[bits - 1]);
            Check.due("written(2, " + bits + ")", x.written(2, bits), 0);
            Check.due("written(12, " + bits + ")", x.written(12, bits), 0);
        }
        Check.due("the passes as they are", x.total(3), 6);
        Check.due("limit", x.count(20), 1);
        Check.due("bits", x.count(21), 4);
        Check.due("states", x.count(3), 4);
        Check.due("written(2, 4) of two spills", Examples.twoSpills().written(2, 4), 4);
        Check.due("written of none", new SpilledGroups().written(1, 1), 0);
    }

    private static void promise12WrittenWrong() {
        SpilledGroups x = Examples.alike();
        int[][] wrong = {{0, 1}, {13, 1}, {1, 0}, {1, 5}, {-1, -1}, {Integer.MAX_VALUE, 1}, {1, Integer.MIN_VALUE}};
        for (int[] w : wrong) {
            Check.due("written(" + w[0] + ", " + w[1] + ")", x.written(w[0], w[1]), INVALID);
        }
    }

    private static void promise13BestBits() {
        SpilledGroups x = Examples.alike();
        x.set(1, 2);
        Check.due("bestBits(1, 0)", x.bestBits(1, 0), 4);
        Check.due("bestBits(1, 1)", x.bestBits(1, 1), 6);
        Check.due("bestBits(2, 0), all alike", x.bestBits(2, 0), 1);
        Check.due("bestBits(2, 1)", x.bestBits(2, 1), 0);
        Check.due("the passes as they are", x.total(3), 14);
        // The hashes 8192, 16384 and 7919 are in unlike parts by 3 and by 4 bits, not by 1 and 2.
        SpilledGroups y = Check.withRows(273, 1, 8465, 2, 0, 3);
        y.set(2, 1);
        int[] items = {6, 3, 2, 2};
        for (int bits = 1; bits <= 4; bits++) {
            Check.due("written(1, " + bits + ")", y.written(1, bits), items[bits - 1]);
        }
        Check.due("bestBits(1, 0), of several the lowest", y.bestBits(1, 0), 3);
        Check.due("bestBits(1, 1)", y.bestBits(1, 1), 2);
        Check.due("bestBits(12, 0) of none", new SpilledGroups().bestBits(12, 0), 1);
    }

    private static void promise13BestBitsWrong() {
        SpilledGroups x = Examples.alike();
        int[][] wrong = {{0, 0}, {13, 0}, {1, -1}, {1, 2}, {-5, 7}};
        for (int[] w : wrong) {
            Check.due("bestBits(" + w[0] + ", " + w[1] + ")", x.bestBits(w[0], w[1]), INVALID);
        }
    }

    private static void promise14Enough() {
        Check.due("enough() of none", new SpilledGroups().enough(), 1);
        for (int groups = 1; groups <= 12; groups++) {
            SpilledGroups x = Examples.unlike(groups);
            x.row(0, 7);
            Check.due("enough() of " + groups, x.enough(), groups);
        }
        SpilledGroups x = Examples.unlike(13);
        Check.due("enough() of 13", x.enough(), SpilledGroups.NOT_FOUND);
        x.set(0, 12);
        Check.due("13 groups spill by 12", x.total(2) > 0 ? 1 : 0, 1);
        x.drop(12);
        Check.due("enough() of 12 again", x.enough(), 12);
        Check.due("12 groups do not", x.total(2), 0);
        Check.due("the limit stays", x.count(20), 12);
    }

    private static void promise15Skewed() {
        SpilledGroups x = Examples.twoSpills();
        Check.due("part", x.skewed(0), 2);
        Check.due("rows", x.skewed(1), 3);
        Check.due("groups", x.skewed(2), 2);
        x.set(1, 1);
        Check.due("part by 1 bit", x.skewed(0), 0);
        Check.due("rows by 1 bit", x.skewed(1), 6);
        Check.due("groups by 1 bit", x.skewed(2), 5);
        // The parts 4, 2 and 1 have a row each: the lowest.
        SpilledGroups y = Check.withRows(8465, 1, 273, 1, 0, 1);
        y.set(1, 4);
        y.set(2, 1);
        Check.due("of several", y.skewed(0), 1);
        // Many rows of one group beat more groups.
        y.row(8465, 2);
        y.row(8465, 3);
        y.row(274, 4);
        Check.due("by rows", y.skewed(0), 4);
        Check.due("its rows", y.skewed(1), 3);
        Check.due("its groups", y.skewed(2), 1);
        // The last part is looked at, too.
        SpilledGroups z = Check.withRows(1, 1);
        z.set(1, 4);
        z.set(2, 57615);
        Check.due("hash", z.rowOf(0, 2), 65534);
        Check.due("the last part", z.skewed(0), 15);
    }

    private static void promise15SkewedWrong() {
        SpilledGroups x = new SpilledGroups();
        for (int what = 0; what < 3; what++) {
            Check.due("skewed(" + what + ") of none", x.skewed(what), SpilledGroups.NOT_FOUND);
        }
        Check.due("skewed(-1)", x.skewed(-1), INVALID);
        Check.due("skewed(3)", x.skewed(3), INVALID);
    }
}
