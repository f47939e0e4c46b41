/** Each sentence that names a boundary case of rows, hashes, settings and of the promises 1 to 6: a test of its own. */
public final class BoundaryRowsTest {
    private static final int INVALID = SpilledGroups.INVALID_ARGUMENT;
    private static final int IMPOSSIBLE = SpilledGroups.NOT_POSSIBLE;
    private static final int FULL = SpilledGroups.LIMIT_REACHED;
    private static final int MISSING = SpilledGroups.NOT_FOUND;
    private static final int LEAST = Integer.MIN_VALUE;
    private static final int MOST = Integer.MAX_VALUE;

    public static void main(String[] args) {
        Check.all(BoundaryRowsTest.class);
        Check.end();
    }

    private static void dueKeys(SpilledGroups x, int... keys) {
        for (int row = 0; row < keys.length; row++) {
            Check.due("key of row " + row, x.rowOf(row, 0), keys[row]);
        }
        Check.due("the row behind the last", x.rowOf(keys.length, 0), MISSING);
        Check.due("rows", x.count(0), keys.length);
    }

    /** What a refused call must leave: no rows but one with 7 and 70, the first settings, one state. */
    private static SpilledGroups untouched() {
        return Check.withRows(7, 70);
    }

    private static void dueUntouched(SpilledGroups x) {
        dueKeys(x, 7);
        Check.due("sum", x.count(1), 70);
        Check.due("states", x.count(3), 1);
        Check.due("limit", x.count(20), 3);
        Check.due("bits", x.count(21), 2);
        Check.due("factor", x.count(22), 40503);
    }

    // ---- Terms: rows

    /** "There are at most 100 rows" */
    static void rowsAreAtMost100() {
        SpilledGroups x = new SpilledGroups();
        for (int i = 0; i < 99; i++) {
            x.row(i, 0);
        }
        Check.due("row 100", x.row(99, 0), 99);
        Check.due("row 101", x.row(100, 0), FULL);
        Check.due("rows", x.count(0), 100);
        Check.due("the last key", x.rowOf(99, 0), 99);
    }

    /** "at most 100 rows": as many again when one is dropped */
    static void rowsAreAtMost100AfterADrop() {
        SpilledGroups x = Examples.unlike(100);
        Check.due("drop(50)", x.drop(50), 99);
        Check.due("row 100", x.row(1, 1), 99);
        Check.due("row 101", x.row(1, 1), FULL);
    }

    /** "numbered from 0 in the order in which they came" */
    static void rowsAreNumberedFrom0InTheirOrder() {
        SpilledGroups x = new SpilledGroups();
        Check.due("the first row", x.row(9000, 1), 0);
        Check.due("the second row", x.row(1, 1), 1);
        Check.due("the third row", x.row(500, 1), 2);
        dueKeys(x, 9000, 1, 500);
    }

    /** "if one is dropped, those behind it have numbers that are less by 1": all others of the first one */
    static void rowsBehindTheFirstOneMoveUp() {
        SpilledGroups x = Check.withRows(10, 0, 20, 0, 30, 0);
        x.drop(0);
        dueKeys(x, 20, 30);
    }

    /** "those behind it": those ahead of it stay */
    static void rowsAheadOfADroppedOneStay() {
        SpilledGroups x = Check.withRows(10, 0, 20, 0, 30, 0);
        x.drop(1);
        dueKeys(x, 10, 30);
    }

    /** "those behind it": of the last one there are none */
    static void rowsStayWhenTheLastOneIsDropped() {
        SpilledGroups x = Check.withRows(10, 0, 20, 0, 30, 0);
        x.drop(2);
        dueKeys(x, 10, 20);
    }

    /** "those behind it have numbers that are less by 1": also of 100 rows */
    static void rowsOfAFullObjectMoveUp() {
        SpilledGroups x = Examples.unlike(100);
        x.drop(0);
        Check.due("the first", x.rowOf(0, 0), 11);
        Check.due("the last", x.rowOf(98, 0), 1089);
        Check.due("its value", x.rowOf(98, 1), 99);
        Check.due("none behind it", x.rowOf(99, 0), MISSING);
    }

    /** "a key (0 to 9999)" */
    static void keysAre0To9999() {
        SpilledGroups x = new SpilledGroups();
        Check.due("key 0", x.row(0, 0), 0);
        Check.due("key 9999", x.row(9999, 0), 1);
        for (int key : new int[] {-1, 10000, LEAST, MOST}) {
            Check.due("key " + key, x.row(key, 0), INVALID);
        }
        dueKeys(x, 0, 9999);
    }

    /** "a value (-999 to 999)" */
    static void valuesAreMinus999To999() {
        SpilledGroups x = new SpilledGroups();
        Check.due("value -999", x.row(0, -999), 0);
        Check.due("value 999", x.row(0, 999), 1);
        for (int value : new int[] {-1000, 1000, LEAST, MOST}) {
            Check.due("value " + value, x.row(0, value), INVALID);
        }
        Check.due("the least", x.rowOf(0, 1), -999);
        Check.due("the greatest", x.rowOf(1, 1), 999);
        Check.due("rows", x.count(0), 2);
    }

    /** "the sum, the least and the greatest of their values": of one row all are its value */
    static void aGroupOfOneRow() {
        for (int value : new int[] {-999, -1, 0, 1, 999}) {
            SpilledGroups x = Check.withRows(5, value);
            Check.due("count", x.groupOf(0, 1), 1);
            for (int what = 2; what <= 4; what++) {
                Check.due("groupOf(0, " + what + ") of " + value, x.groupOf(0, what), value);
            }
        }
    }

    /** "the least and the greatest of their values": the first row has it, the last one, one between */
    static void theLeastAndTheGreatestOfAGroup() {
        int[][] values = {{-3, 4, 5}, {5, 4, -3}, {4, -3, 5}, {4, 5, -3}, {-3, 5, 4}, {5, -3, 4}};
        for (int[] v : values) {
            SpilledGroups x = Check.withRows(7, v[0], 7, v[1], 7, v[2]);
            Check.due("least", x.groupOf(0, 3), -3);
            Check.due("greatest", x.groupOf(0, 4), 5);
            Check.due("sum", x.groupOf(0, 2), 6);
        }
    }

    /** "The group of a key": rows of neighbouring keys are of groups of their own, in whichever order they come */
    static void rowsOfOtherKeysAreOfOtherGroups() {
        SpilledGroups x = Check.withRows(9999, 30, 9998, 20, 0, -10, 9999, 31, 0, -11, 1, 5);
        int[][] groups = {{0, 2, -21, -11, -10}, {1, 1, 5, 5, 5}, {9998, 1, 20, 20, 20}, {9999, 2, 61, 30, 31}};
        for (int index = 0; index < groups.length; index++) {
            for (int what = 0; what <= 4; what++) {
                Check.due("groupOf(" + index + ", " + what + ")", x.groupOf(index, what), groups[index][what]);
            }
        }
    }

    /** "its count (how many rows it has), the sum": 100 rows of one key */
    static void aGroupOf100Rows() {
        for (int value : new int[] {-999, 999}) {
            SpilledGroups x = new SpilledGroups();
            for (int i = 0; i < 100; i++) {
                x.row(9999, value);
            }
            Check.due("count", x.groupOf(0, 1), 100);
            Check.due("sum", x.groupOf(0, 2), 100 * value);
            Check.due("least", x.groupOf(0, 3), value);
            Check.due("greatest", x.groupOf(0, 4), value);
            Check.due("groups", x.total(0), 1);
        }
    }

    // ---- Terms: hashes

    /** "(the key * setting 2 + 7919) modulo 65536": the key 0 by the least and the greatest factor */
    static void hashOfTheKey0() {
        for (int factor : new int[] {1, 40503, 65535}) {
            SpilledGroups x = Check.withRows(0, 0);
            x.set(2, factor);
            Check.due("hash by " + factor, x.rowOf(0, 2), 7919);
        }
    }

    /** "modulo 65536": 65535 is the greatest hash, 65536 is 0, 65537 is 1 */
    static void hashesWrapAround() {
        SpilledGroups x = Check.withRows(16, 0);
        x.set(2, 3601);
        Check.due("16 * 3601 + 7919", x.rowOf(0, 2), 65535);
        SpilledGroups y = Check.withRows(1, 0, 3, 0);
        y.set(2, 57617);
        Check.due("57617 + 7919", y.rowOf(0, 2), 0);
        y.set(2, 57619);
        Check.due("57619 + 7919", y.rowOf(0, 2), 2);
        y.set(2, 19205);
        Check.due("3 * 19205 + 7919", y.rowOf(1, 2), 65534);
        y.set(2, 19207);
        Check.due("3 * 19207 + 7919", y.rowOf(1, 2), 4);
    }

    /** "modulo 65536": the greatest product */
    static void hashOfTheGreatestKeyByTheGreatestFactor() {
        SpilledGroups x = Check.withRows(9999, 0);
        x.set(2, 65535);
        Check.due("-9999 + 7919, and 65536", x.rowOf(0, 2), 63456);
    }

    /** "(Setting 2 is odd, so unlike keys have unlike hashes.)" */
    static void unlikeKeysHaveUnlikeHashes() {
        for (int factor : new int[] {1, 32769, 65535}) {
            SpilledGroups x = Examples.unlike(100);
            x.set(2, factor);
            java.util.Set<Integer> hashes = new java.util.TreeSet<>();
            for (int row = 0; row < 100; row++) {
                hashes.add(x.rowOf(row, 2));
            }
            Check.due("unlike hashes by " + factor, hashes.size(), 100);
        }
    }

    /** "(0 to 2 to the power of b, less 1)": the part of the least and of the greatest hash */
    static void partsAre0To2ToThePowerOfTheBitsLess1() {
        int[] greatest = {1, 3, 7, 15};
        for (int bits = 1; bits <= 4; bits++) {
            SpilledGroups x = Examples.atTheEnds(bits, Examples.HASH_0, Examples.HASH_65535);
            Check.due("the least hash", x.rowOf(0, 2), 0);
            Check.due("its part by " + bits, x.rowOf(0, 3), 0);
            Check.due("the greatest hash", x.rowOf(1, 2), 65535);
            Check.due("its part by " + bits, x.rowOf(1, 3), greatest[bits - 1]);
        }
    }

    /** "the part .. is told by the next b bits": the last hash of a part and the first one of the next */
    static void partsChangeFromOneHashToTheNext() {
        SpilledGroups x = Examples.byHash(3, 0x1FFF, 0x2000, 0x3FFF, 0x4000);
        int[] parts = {1, 2, 3, 4};
        for (int row = 0; row < 4; row++) {
            Check.due("part of row " + row, x.rowOf(row, 3), parts[row]);
        }
        x.set(1, 2);
        Check.due("0x3FFF by 2 bits", x.rowOf(2, 3), 0);
        Check.due("0x4000 by 2 bits", x.rowOf(3, 3), 1);
        x.set(1, 3);
        Check.due("0x1FFF by 3 bits", x.rowOf(0, 3), 0);
        Check.due("0x2000 by 3 bits", x.rowOf(1, 3), 1);
    }

    // ---- Terms: settings

    /** "(in parentheses: range; first value)" */
    static void settingsHaveTheirFirstValues() {
        SpilledGroups x = new SpilledGroups();
        Check.due("setting 0", x.count(20), 3);
        Check.due("setting 1", x.count(21), 2);
        Check.due("setting 2", x.count(22), 40503);
    }

    private static void dueRange(int what, int[] right, int[] wrong) {
        for (int value : right) {
            SpilledGroups x = new SpilledGroups();
            int was = x.count(20 + what);
            Check.due("set(" + what + ", " + value + ")", x.set(what, value), was);
            Check.due("setting " + what, x.count(20 + what), value);
        }
        SpilledGroups y = untouched();
        for (int value : wrong) {
            Check.due("set(" + what + ", " + value + ")", y.set(what, value), INVALID);
        }
        dueUntouched(y);
    }

    /** "0 (1 to 12; 3)" */
    static void setting0Is1To12() {
        dueRange(0, new int[] {1, 2, 11, 12}, new int[] {0, 13, -1, LEAST, MOST});
    }

    /** "1 (1 to 4; 2)" */
    static void setting1Is1To4() {
        dueRange(1, new int[] {1, 2, 3, 4}, new int[] {0, 5, -1, LEAST, MOST});
    }

    /** "2 (odd, 1 to 65535; 40503)": its ends */
    static void setting2Is1To65535() {
        dueRange(2, new int[] {1, 3, 65533, 65535}, new int[] {-1, 65537, LEAST + 1, MOST});
    }

    /** "2 (odd ..)" */
    static void setting2IsOdd() {
        dueRange(2, new int[] {1, 32767}, new int[] {0, 2, 32768, 40502, 65534, 65536, -2, LEAST});
    }

    // ---- Promise 1: a new object

    /** "Creates a memory without rows." */
    static void promise1WithoutRows() {
        SpilledGroups x = new SpilledGroups();
        dueKeys(x);
        for (int what = 0; what <= 4; what++) {
            Check.due("count(" + what + ")", x.count(what), 0);
        }
        for (int what = 0; what <= 7; what++) {
            Check.due("groupOf(0, " + what + ")", x.groupOf(0, what), MISSING);
        }
        Check.due("finished(0)", x.finished(0), MISSING);
        Check.due("undo()", x.undo(), IMPOSSIBLE);
        Check.due("drop(0)", x.drop(0), IMPOSSIBLE);
        Check.due("clearText()", x.clearText(), 0);
    }

    /** "Creates a memory without rows.": also beside an object that has some */
    static void promise1WithoutRowsOfOtherObjects() {
        SpilledGroups x = Examples.unlike(100);
        x.set(0, 12);
        Check.type(x, "1=1;");
        SpilledGroups y = new SpilledGroups();
        dueKeys(y);
        Check.due("limit", y.count(20), 3);
        Check.due("states", y.count(3), 0);
        Check.due("text", y.count(4), 0);
        y.row(5, 5);
        Check.due("rows of the other object", x.count(0), 100);
    }

    // ---- Promise 2: row

    /** "Returns its number": the first and the last */
    static void promise2ReturnsTheNumber() {
        SpilledGroups x = new SpilledGroups();
        for (int i = 0; i < 100; i++) {
            Check.due("row " + i, x.row(5, 5), i);
        }
    }

    /** "INVALID_ARGUMENT if an argument is out of range": the key, the value, both */
    static void promise2Invalid() {
        SpilledGroups x = untouched();
        Check.due("row(-1, 999)", x.row(-1, 999), INVALID);
        Check.due("row(10000, -999)", x.row(10000, -999), INVALID);
        Check.due("row(9999, 1000)", x.row(9999, 1000), INVALID);
        Check.due("row(0, -1000)", x.row(0, -1000), INVALID);
        Check.due("row(10000, 1000)", x.row(10000, 1000), INVALID);
        dueUntouched(x);
    }

    /** "LIMIT_REACHED if there are 100", and it changes nothing */
    static void promise2LimitReached() {
        SpilledGroups x = Examples.unlike(100);
        Check.due("row 101", x.row(9999, -999), FULL);
        Check.due("sum", x.count(1), 4950);
        Check.due("undo()", x.undo(), 3);
        Check.due("the state of 99 rows", x.count(0), 99);
    }

    /** "INVALID_ARGUMENT is returned rather than .. LIMIT_REACHED" */
    static void promise2InvalidRatherThanLimit() {
        SpilledGroups x = Examples.unlike(100);
        Check.due("row(-1, 0)", x.row(-1, 0), INVALID);
        Check.due("row(0, 1000)", x.row(0, 1000), INVALID);
    }

    // ---- Promise 3: drop

    /** "Returns how many there are then": of one row none, of 100 rows 99 */
    static void promise3ReturnsHowManyThereAre() {
        Check.due("drop(0) of one row", Check.withRows(1, 1).drop(0), 0);
        Check.due("drop(99) of 100 rows", Examples.unlike(100).drop(99), 99);
    }

    /** "INVALID_ARGUMENT if row is negative" */
    static void promise3Invalid() {
        SpilledGroups x = untouched();
        Check.due("drop(-1)", x.drop(-1), INVALID);
        Check.due("drop(least)", x.drop(LEAST), INVALID);
        dueUntouched(x);
    }

    /** "INVALID_ARGUMENT is returned rather than NOT_POSSIBLE": without rows */
    static void promise3InvalidRatherThanNotPossible() {
        Check.due("drop(-1) of none", new SpilledGroups().drop(-1), INVALID);
    }

    /** "NOT_POSSIBLE if there is no such row": the one behind the last, and without rows */
    static void promise3NotPossible() {
        SpilledGroups x = untouched();
        Check.due("drop(1) of one row", x.drop(1), IMPOSSIBLE);
        Check.due("drop(most)", x.drop(MOST), IMPOSSIBLE);
        dueUntouched(x);
        Check.due("drop(0) of none", new SpilledGroups().drop(0), IMPOSSIBLE);
        Check.due("drop(100) of 100 rows", Examples.unlike(100).drop(100), IMPOSSIBLE);
    }

    // ---- Promise 4: clear

    /** "Drops all rows. Returns how many there were.": none, one, 100 */
    static void promise4Clear() {
        for (int rows : new int[] {0, 1, 100}) {
            SpilledGroups x = Examples.unlike(rows);
            Check.due("clear() of " + rows, x.clear(), rows);
            dueKeys(x);
            Check.due("clear() again", x.clear(), 0);
        }
    }

    /** "Drops all rows.": then 100 have room again, and none of the old ones is left */
    static void promise4RoomAgain() {
        SpilledGroups x = Examples.unlike(100);
        x.clear();
        Check.due("the first row", x.row(9, 9), 0);
        dueKeys(x, 9);
        Check.due("groups", x.count(2), 1);
    }

    // ---- Promise 5: set

    /** "Returns what it was": at the ends of the ranges, and with the same value */
    static void promise5ReturnsWhatItWas() {
        int[] least = {1, 1, 1};
        int[] most = {12, 4, 65535};
        int[] first = {3, 2, 40503};
        for (int what = 0; what < 3; what++) {
            SpilledGroups x = new SpilledGroups();
            Check.due("the first value", x.set(what, first[what]), first[what]);
            Check.due("the same value", x.set(what, least[what]), first[what]);
            Check.due("the least value", x.set(what, most[what]), least[what]);
            Check.due("the greatest value", x.set(what, most[what]), most[what]);
        }
    }

    /** "what: 0 to 2" */
    static void promise5InvalidWhat() {
        SpilledGroups x = untouched();
        for (int what : new int[] {-1, 3, 20, LEAST, MOST}) {
            Check.due("set(" + what + ", 1)", x.set(what, 1), INVALID);
        }
        dueUntouched(x);
    }

    /** "a value in its range": what is in the range of another setting alone is refused */
    static void promise5InvalidInAnotherRange() {
        SpilledGroups x = untouched();
        Check.due("set(0, 13)", x.set(0, 13), INVALID);
        Check.due("set(1, 12)", x.set(1, 12), INVALID);
        Check.due("set(2, 12)", x.set(2, 12), INVALID);
        dueUntouched(x);
    }

    // ---- Promise 6: rowOf

    /** "what: 0 .. 3" */
    static void promise6InvalidWhat() {
        SpilledGroups x = untouched();
        for (int what : new int[] {-1, 4, LEAST, MOST}) {
            Check.due("rowOf(0, " + what + ")", x.rowOf(0, what), INVALID);
        }
    }

    /** "INVALID_ARGUMENT if .. row is negative" */
    static void promise6InvalidRow() {
        SpilledGroups x = untouched();
        for (int what = 0; what <= 3; what++) {
            Check.due("rowOf(-1, " + what + ")", x.rowOf(-1, what), INVALID);
            Check.due("rowOf(least, " + what + ")", x.rowOf(LEAST, what), INVALID);
        }
    }

    /** "INVALID_ARGUMENT is returned rather than .. NOT_FOUND" */
    static void promise6InvalidRatherThanNotFound() {
        SpilledGroups x = untouched();
        Check.due("rowOf(1, 4)", x.rowOf(1, 4), INVALID);
        Check.due("rowOf(1, -1)", x.rowOf(1, -1), INVALID);
        Check.due("rowOf(-1, 0) of none", new SpilledGroups().rowOf(-1, 0), INVALID);
    }

    /** "NOT_FOUND if there is no such row": the one behind the last, and without rows */
    static void promise6NotFound() {
        for (int what = 0; what <= 3; what++) {
            Check.due("rowOf(0, ..) of none", new SpilledGroups().rowOf(0, what), MISSING);
            Check.due("rowOf(1, ..) of one row", untouched().rowOf(1, what), MISSING);
            Check.due("rowOf(100, ..) of 100 rows", Examples.unlike(100).rowOf(100, what), MISSING);
            Check.due("rowOf(most, ..)", untouched().rowOf(MOST, what), MISSING);
        }
        Check.due("rowOf(99, 1) of 100 rows", Examples.unlike(100).rowOf(99, 1), 99);
    }

    /** "NOT_FOUND if there is no such row": rows that were dropped, cleared or undone */
    static void promise6NotFoundOfRowsThatAreGone() {
        SpilledGroups x = Check.withRows(1, 1, 2, 2);
        x.drop(1);
        Check.due("dropped", x.rowOf(1, 0), MISSING);
        x.clear();
        Check.due("cleared", x.rowOf(0, 0), MISSING);
        x.row(3, 3);
        x.undo();
        Check.due("undone", x.rowOf(0, 0), MISSING);
    }
}
