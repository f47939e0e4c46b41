/** Promises 1 to 6: a new object, row, drop, clear, set, rowOf. */
public final class RowsTest {
    private static final int INVALID = SpilledGroups.INVALID_ARGUMENT;

    public static void main(String[] args) {
        promise1NewObject();
        promise2Row();
        promise2RowLimit();
        promise3Drop();
        promise4Clear();
        promise5Set();
        promise5SetRanges();
        promise6RowOf();
        Check.end();
    }

    private static void promise1NewObject() {
        SpilledGroups x = new SpilledGroups();
        int[] numbers = {0, 0, 0, 0, 0};
        for (int what = 0; what < numbers.length; what++) {
            Check.due("new: count(" + what + ")", x.count(what), numbers[what]);
        }
        Check.due("new: limit", x.count(20), 3);
        Check.due("new: bits", x.count(21), 2);
        Check.due("new: factor", x.count(22), 40503);
        Check.due("new: undo()", x.undo(), SpilledGroups.NOT_POSSIBLE);
        int[] totals = {0, 1, 0, 0, 0, 0, 0, 0};
        for (int what = 0; what < totals.length; what++) {
            Check.due("new: total(" + what + ")", x.total(what), totals[what]);
        }
        for (int what = 0; what < 6; what++) {
            Check.due("new: passOf(0, 0, " + what + ")", x.passOf(0, 0, what), 0);
        }
    }

    private static void promise2Row() {
        SpilledGroups x = new SpilledGroups();
        Check.due("row(0, -999)", x.row(0, -999), 0);
        Check.due("row(9999, 999)", x.row(9999, 999), 1);
        Check.due("row(0, -999) again", x.row(0, -999), 2);
        int[][] wrong = {{-1, 0}, {10000, 0}, {0, -1000}, {0, 1000}, {Integer.MIN_VALUE, 0}, {0, Integer.MAX_VALUE}};
        for (int[] w : wrong) {
            Check.due("row(" + w[0] + ", " + w[1] + ")", x.row(w[0], w[1]), INVALID);
        }
        Check.due("rows", x.count(0), 3);
        Check.due("states after wrong rows", x.count(3), 3);
        Check.due("key", x.rowOf(1, 0), 9999);
        Check.due("value", x.rowOf(2, 1), -999);
    }

    private static void promise2RowLimit() {
        SpilledGroups x = new SpilledGroups();
        for (int i = 0; i < 100; i++) {
            Check.due("row", x.row(i * 7, i), i);
        }
        Check.due("row 101", x.row(5, 5), SpilledGroups.LIMIT_REACHED);
        Check.due("row 101, wrong", x.row(-5, 5), INVALID);
        Check.due("rows", x.count(0), 100);
        Check.due("groups", x.total(0), 100);
        x.undo();
        Check.due("row 100 again", x.row(5, 5), 99);
        Check.due("its key", x.rowOf(99, 0), 5);
    }

    private static void promise3Drop() {
        SpilledGroups x = Check.withRows(10, 1, 20, 2, 30, 3);
        Check.due("drop(-1)", x.drop(-1), INVALID);
        Check.due("drop(3)", x.drop(3), SpilledGroups.NOT_POSSIBLE);
        Check.due("drop(most)", x.drop(Integer.MAX_VALUE), SpilledGroups.NOT_POSSIBLE);
        Check.due("states", x.count(3), 3);
        Check.due("drop(1)", x.drop(1), 2);
        Check.due("row 0 stays", x.rowOf(0, 0), 10);
        Check.due("row 1 was 2", x.rowOf(1, 0), 30);
        Check.due("its value", x.rowOf(1, 1), 3);
        Check.due("row 2", x.rowOf(2, 0), SpilledGroups.NOT_FOUND);
        Check.due("states then", x.count(3), 4);
        Check.due("drop(1) again", x.drop(1), 1);
        Check.due("drop(0)", x.drop(0), 0);
        Check.due("drop(0) of none", x.drop(0), SpilledGroups.NOT_POSSIBLE);
        SpilledGroups y = Check.withRows(0, 0, 1, 1, 2, 2, 3, 3, 4, 4, 5, 5);
        y.drop(1);
        for (int row = 1; row < 5; row++) {
            Check.due("key of " + row, y.rowOf(row, 0), row + 1);
            Check.due("value of " + row, y.rowOf(row, 1), row + 1);
        }
    }

    private static void promise4Clear() {
        SpilledGroups x = Check.withRows(10, 1, 20, 2);
        x.set(0, 5);
        x.type('1');
        Check.due("clear()", x.clear(), 2);
        Check.due("rows", x.count(0), 0);
        Check.due("groups", x.total(0), 0);
        Check.due("the setting stays", x.count(20), 5);
        Check.due("the text stays", x.count(4), 1);
        Check.due("undo()", x.undo(), 3);
        Check.due("rows are back", x.count(0), 2);
        SpilledGroups y = new SpilledGroups();
        Check.due("clear() of none", y.clear(), 0);
        Check.due("it is a change", y.count(3), 1);
    }

    private static void promise5Set() {
        SpilledGroups x = new SpilledGroups();
        Check.due("set(0, 12)", x.set(0, 12), 3);
        Check.due("set(0, 1)", x.set(0, 1), 12);
        Check.due("set(1, 4)", x.set(1, 4), 2);
        Check.due("set(1, 1)", x.set(1, 1), 4);
        Check.due("set(2, 1)", x.set(2, 1), 40503);
        Check.due("set(2, 65535)", x.set(2, 65535), 1);
        Check.due("set(2, 65535) again", x.set(2, 65535), 65535);
        Check.due("limit", x.count(20), 1);
        Check.due("bits", x.count(21), 1);
        Check.due("factor", x.count(22), 65535);
        SpilledGroups y = new SpilledGroups();
        y.set(0, 3);
        Check.due("the same value is a change", y.count(3), 1);
    }

    private static void promise5SetRanges() {
        SpilledGroups x = new SpilledGroups();
        int[][] wrong = {
            {-1, 1}, {3, 1}, {0, 0}, {0, 13}, {0, -1}, {1, 0}, {1, 5}, {2, 0}, {2, -1}, {2, 2}, {2, 65534}, {2, 65536},
            {2, 65537}, {Integer.MAX_VALUE, 1}, {Integer.MIN_VALUE, 1}, {2, Integer.MAX_VALUE}, {2, Integer.MIN_VALUE + 1},
        };
        for (int[] w : wrong) {
            Check.due("set(" + w[0] + ", " + w[1] + ")", x.set(w[0], w[1]), INVALID);
        }
        Check.due("states", x.count(3), 0);
        Check.due("limit", x.count(20), 3);
        Check.due("bits", x.count(21), 2);
        Check.due("factor", x.count(22), 40503);
    }

    private static void promise6RowOf() {
        SpilledGroups x = Check.withRows(1, 5, 9999, -999);
        Check.due("key", x.rowOf(0, 0), 1);
        Check.due("value", x.rowOf(1, 1), -999);
        Check.due("hash", x.rowOf(0, 2), 48422);
        Check.due("hash of the greatest key", x.rowOf(1, 2), 50472);
        int[] parts = {1, 2, 5, 11};
        for (int bits = 1; bits <= 4; bits++) {
            x.set(1, bits);
            Check.due("part by " + bits + " bits", x.rowOf(0, 3), parts[bits - 1]);
        }
        x.set(2, 65535);
        Check.due("hash by the greatest factor", x.rowOf(1, 2), 63456);
        x.set(2, 1);
        Check.due("hash by the least factor", x.rowOf(1, 2), 17918);
        int[][] wrong = {{-1, 0}, {0, -1}, {0, 4}, {-1, 4}, {9, 4}, {Integer.MIN_VALUE, 0}};
        for (int[] w : wrong) {
            Check.due("rowOf(" + w[0] + ", " + w[1] + ")", x.rowOf(w[0], w[1]), INVALID);
        }
        Check.due("rowOf(2, 0)", x.rowOf(2, 0), SpilledGroups.NOT_FOUND);
        Check.due("rowOf(most, 3)", x.rowOf(Integer.MAX_VALUE, 3), SpilledGroups.NOT_FOUND);
    }
}
