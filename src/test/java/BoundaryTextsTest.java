/** Each sentence that names a boundary case of texts, of changes and of the promises 16 to 21: a test of its own. */
public final class BoundaryTextsTest {
    private static final int INVALID = SpilledGroups.INVALID_ARGUMENT;
    private static final int IMPOSSIBLE = SpilledGroups.NOT_POSSIBLE;
    private static final int FULL = SpilledGroups.LIMIT_REACHED;
    private static final int MISSING = SpilledGroups.NOT_FOUND;
    private static final int LEAST = Integer.MIN_VALUE;
    private static final int MOST = Integer.MAX_VALUE;

    /** 15 rows in 60 characters. */
    private static final String FULL_TEXT = "1=1;2=2;3=3;4=4;5=5;6=6;7=7;8=8;9=9;0=0;1=1;2=2;3=3;4=4;5=5;";

    public static void main(String[] args) {
        Check.all(BoundaryTextsTest.class);
        Check.end();
    }

    private static SpilledGroups withText(int rows, String text) {
        SpilledGroups x = Examples.unlike(rows);
        Check.type(x, text);
        return x;
    }

    private static void dueFault(SpilledGroups x, int position, int reason, int cause) {
        Check.dueAll("fault(..)", new int[] {x.fault(0), x.fault(1), x.fault(2)}, position, reason, cause);
        int states = x.count(3);
        int rows = x.count(0);
        Check.due("play()", x.play(), IMPOSSIBLE);
        Check.due("states", x.count(3), states);
        Check.due("rows", x.count(0), rows);
    }

    /** The text of a new object, of which the first row breaks off there. */
    private static void dueBreak(String text, int cause) {
        dueFault(withText(0, text), 0, 1, cause);
    }

    private static void dueNoFault(SpilledGroups x, int rowsThen) {
        for (int what = 0; what <= 2; what++) {
            Check.due("fault(" + what + ")", x.fault(what), MISSING);
        }
        Check.due("play()", x.play(), rowsThen);
    }

    // ---- Terms: texts

    /** "a text of at most 60 characters" */
    static void textsHaveAtMost60Characters() {
        SpilledGroups x = new SpilledGroups();
        for (int i = 1; i <= 60; i++) {
            Check.due("type of character " + i, x.type('a'), i);
        }
        Check.due("type of character 61", x.type('a'), FULL);
        Check.due("length", x.count(4), 60);
    }

    /** "initially empty" */
    static void textsAreEmptyAtFirst() {
        SpilledGroups x = new SpilledGroups();
        Check.due("length", x.count(4), 0);
        Check.due("fault(0)", x.fault(0), MISSING);
        Check.due("play()", x.play(), 0);
        Check.due("clearText()", x.clearText(), 0);
    }

    /** "rows, each followed by ;": as many as 60 characters have */
    static void textsOf15Rows() {
        SpilledGroups x = withText(0, FULL_TEXT);
        dueNoFault(x, 15);
        Check.due("the first key", x.rowOf(0, 0), 1);
        Check.due("the last key", x.rowOf(14, 0), 5);
        Check.due("the last value", x.rowOf(14, 1), 5);
    }

    /** "its ; included": a row of a full text that lacks it */
    static void aFullTextMayLackTheLastSign() {
        SpilledGroups x = withText(0, FULL_TEXT.substring(0, 56) + "1=12;");
        Check.due("length", x.count(4), 60);
        dueFault(x, 56, 1, 4);
    }

    /** "keys of 1 to 4 digits": the ends of the keys by each length */
    static void keysHave1To4Digits() {
        String[] keys = {"0", "9", "00", "99", "000", "999", "0000", "9999"};
        int[] numbers = {0, 9, 0, 99, 0, 999, 0, 9999};
        for (int i = 0; i < keys.length; i++) {
            SpilledGroups x = withText(0, keys[i] + "=1;");
            dueNoFault(x, 1);
            Check.due("key of " + keys[i], x.rowOf(0, 0), numbers[i]);
        }
    }

    /** "keys of 1 to 4 digits": none breaks off at the character 0 */
    static void keysOfNoDigit() {
        dueBreak("=1;", 0);
    }

    /** "keys of 1 to 4 digits": a fifth one breaks off at the character 4, also with 0 ahead */
    static void keysOf5Digits() {
        dueBreak("12345=1;", 4);
        dueBreak("00001=1;", 4);
        dueBreak("123456789012345678901234567890123456789012345678901234567890", 4);
    }

    /** "values of 1 to 3": the ends of the values by each length */
    static void valuesHave1To3Digits() {
        String[] values = {"0", "9", "00", "99", "000", "999", "-0", "-9", "-00", "-99", "-000", "-999"};
        int[] numbers = {0, 9, 0, 99, 0, 999, 0, -9, 0, -99, 0, -999};
        for (int i = 0; i < values.length; i++) {
            SpilledGroups x = withText(0, "1=" + values[i] + ";");
            dueNoFault(x, 1);
            Check.due("value of " + values[i], x.rowOf(0, 1), numbers[i]);
        }
    }

    /** "values of 1 to 3": none breaks off behind = or - */
    static void valuesOfNoDigit() {
        dueBreak("1=;", 2);
        dueBreak("1=-;", 3);
    }

    /** "values of 1 to 3": a fourth digit breaks off, also with 0 ahead */
    static void valuesOf4Digits() {
        dueBreak("1=1000;", 5);
        dueBreak("1=0001;", 5);
        dueBreak("1=-1000;", 6);
        dueBreak("1234=-0000;", 9);
    }

    /** "0 ahead allowed" */
    static void zerosAheadAreAllowed() {
        SpilledGroups x = withText(0, "0007=007;0070=-070;");
        dueNoFault(x, 2);
        Check.due("the first key", x.rowOf(0, 0), 7);
        Check.due("the first value", x.rowOf(0, 1), 7);
        Check.due("the second key", x.rowOf(1, 0), 70);
        Check.due("the second value", x.rowOf(1, 1), -70);
    }

    /** "a value, perhaps with - ahead of it": once, and not ahead of a key */
    static void aMinusIsAheadOfAValueOnce() {
        dueBreak("1=--1;", 3);
        dueBreak("-1=1;", 0);
        dueBreak("1-=1;", 1);
        dueBreak("1=1-;", 3);
        dueBreak("1=+1;", 2);
    }

    /** "rows, each followed by ;": a ; without a row is none */
    static void aSemicolonWithoutARow() {
        dueBreak(";", 0);
        dueFault(withText(0, "1=1;;"), 4, 1, 0);
    }

    /** The characters beside the digits and the signs are of no row. */
    static void charactersBesideTheDigits() {
        for (char other : new char[] {' ', '/', ':', '~', '<', '>', 'a', '.'}) {
            dueBreak(other + "1=1;", 0);
            dueBreak("1" + other + "1;", 1);
            dueBreak("1=" + other + "1;", 2);
            dueBreak("1=1" + other, 3);
        }
    }

    /** "the position, from 0, of the first character of the first row that is not possible": 0 for the first row */
    static void theFaultOfTheFirstRow() {
        dueFault(withText(0, "x=1;2=2;"), 0, 1, 0);
    }

    /** "of the first row that is not possible": of several the first, at its own first character */
    static void theFaultOfTheFirstOfSeveralRows() {
        dueFault(withText(0, "10=1;20=x;y;"), 5, 1, 3);
    }

    /** "from 0": the last position of a full text */
    static void theFaultAtTheLastPosition() {
        dueFault(withText(0, "1000=1;2=2;3=3;4=4;5=5;6=6;7=7;8=8;9=9;0=0;1=1;2=2;3=3;4=4;5"), 59, 1, 1);
    }

    /** "(of one that the text ends too early it is its length)": at each place of a row */
    static void rowsThatTheTextEndsTooEarly() {
        String row = "1234=-567;";
        for (int length = 1; length < row.length(); length++) {
            dueBreak(row.substring(0, length), length);
            dueFault(withText(0, "1=1;" + row.substring(0, length)), 4, 1, length);
        }
        dueNoFault(withText(0, row), 1);
    }

    /** "at which character of the row, from 0, it breaks off": counted from the row and not from the text */
    static void theCauseIsCountedFromTheRow() {
        dueFault(withText(0, "1=1;2=2;3=3;44=x;"), 12, 1, 3);
    }

    /** "2 if there are 100 rows, when those ahead of it are there": the last row that has room, and the first without */
    static void theReason2By100Rows() {
        dueNoFault(withText(99, "1=1;"), 100);
        dueFault(withText(99, "1=1;22=2;"), 4, 2, 1);
        dueFault(withText(100, "1=1;"), 0, 2, 0);
    }

    /** "when those ahead of it are there": the longest text has room behind 85 rows, and not behind 86 */
    static void theReason2OfTheLongestText() {
        dueNoFault(withText(85, FULL_TEXT), 100);
        dueFault(withText(86, FULL_TEXT), 56, 2, 14);
    }

    /** "100 less the rows that there are ahead of the text": those of the text do not count */
    static void theCauseOfTheReason2() {
        for (int rows = 97; rows <= 100; rows++) {
            dueFault(withText(rows, "1=1;2=2;3=3;4=4;"), 4 * (100 - rows), 2, 100 - rows);
        }
    }

    /** "2 if there are 100 rows": the fault goes with a row that is dropped and comes back with it */
    static void theReason2GoesWithTheRows() {
        SpilledGroups x = withText(100, "1=1;");
        dueFault(x, 0, 2, 0);
        x.drop(0);
        Check.due("fault(0) with 99 rows", x.fault(0), MISSING);
        x.undo();
        dueFault(x, 0, 2, 0);
    }

    /** "There is a text": 100 rows have no fault without one */
    static void noTextHasNoFaultWith100Rows() {
        dueNoFault(withText(100, ""), 100);
    }

    // ---- Terms: changes and errors

    /** "The changes are the calls of row, drop, set, clear and play": each makes a state */
    static void changesMakeStates() {
        SpilledGroups x = new SpilledGroups();
        x.row(1, 1);
        Check.due("row", x.count(3), 1);
        x.drop(0);
        Check.due("drop", x.count(3), 2);
        x.set(0, 5);
        Check.due("set", x.count(3), 3);
        x.clear();
        Check.due("clear", x.count(3), 4);
        SpilledGroups y = new SpilledGroups();
        y.play();
        Check.due("play", y.count(3), 1);
    }

    /** "that return no error": refused calls make no state */
    static void refusedCallsMakeNoState() {
        SpilledGroups x = withText(0, "x");
        x.row(-1, 0);
        x.row(0, 1000);
        x.drop(-1);
        x.drop(0);
        x.set(0, 0);
        x.set(3, 1);
        x.play();
        x.undo();
        Check.due("states", x.count(3), 0);
        SpilledGroups y = Examples.unlike(100);
        y.row(1, 1);
        y.undo();
        Check.due("rows", y.count(0), 99);
    }

    /** "The changes are": type, clearText, undo and the questions are none */
    static void otherCallsMakeNoState() {
        SpilledGroups x = Check.withRows(1, 1, 2, 2);
        x.type('1');
        x.clearText();
        x.rowOf(0, 0);
        x.groupOf(0, 5);
        x.finished(0);
        x.passOf(0, 0, 0);
        x.spillOf(0, 0);
        x.total(1);
        x.written(1, 1);
        x.bestBits(1, 1);
        x.enough();
        x.skewed(0);
        x.fault(0);
        Check.due("states", x.count(3), 2);
        Check.due("undo()", x.undo(), 1);
        Check.due("states", x.count(3), 1);
    }

    /** A change that alters nothing is a change, too: the same setting, clear without rows, play without a text. */
    static void changesThatAlterNothingMakeStates() {
        SpilledGroups x = new SpilledGroups();
        x.set(0, 3);
        Check.due("set to the same value", x.count(3), 1);
        x.clear();
        Check.due("clear of none", x.count(3), 2);
        x.play();
        Check.due("play of none", x.count(3), 3);
    }

    /** "A history of at most 4 states is kept" */
    static void theHistoryHasAtMost4States() {
        SpilledGroups x = new SpilledGroups();
        for (int changes = 1; changes <= 9; changes++) {
            x.row(changes, 0);
            Check.due("states after " + changes, x.count(3), Math.min(changes, 4));
        }
    }

    /** "if there are 5 states then, the oldest one is dropped": the four latest are left */
    static void theOldestOf5StatesIsDropped() {
        for (int changes = 4; changes <= 9; changes++) {
            SpilledGroups x = new SpilledGroups();
            for (int i = 0; i < changes; i++) {
                x.row(i, 0);
            }
            for (int back = 1; back <= 4; back++) {
                Check.due("undo() number " + back, x.undo(), 4 - back);
                Check.due("rows", x.count(0), changes - back);
            }
            Check.due("undo() number 5", x.undo(), IMPOSSIBLE);
            Check.due("rows", x.count(0), changes - 4);
        }
    }

    /** "if there are 5 states then": states that were undone make room for others */
    static void statesThatWereUndoneMakeRoom() {
        SpilledGroups x = Check.withRows(1, 0, 2, 0, 3, 0, 4, 0, 5, 0);
        x.undo();
        x.undo();
        x.row(6, 0);
        x.row(7, 0);
        Check.due("states", x.count(3), 4);
        int[] last = {6, 3, 2, 1};
        for (int back = 0; back < 4; back++) {
            Check.due("undo()", x.undo(), 3 - back);
            Check.due("the last key", x.rowOf(x.count(0) - 1, 0), last[back]);
        }
    }

    /** "each change records everything before it": all rows of 100, and all settings */
    static void statesHoldAllRowsAndSettings() {
        SpilledGroups x = Examples.unlike(100);
        x.set(0, 12);
        x.set(1, 4);
        x.set(2, 65535);
        x.clear();
        Check.due("undo() of clear", x.undo(), 3);
        Check.due("rows", x.count(0), 100);
        Check.due("the last key", x.rowOf(99, 0), 1089);
        Check.due("the last value", x.rowOf(99, 1), 99);
        Check.due("setting 2", x.count(22), 65535);
        x.undo();
        Check.due("setting 2", x.count(22), 40503);
        Check.due("setting 1", x.count(21), 4);
        x.undo();
        Check.due("setting 1", x.count(21), 2);
        Check.due("setting 0", x.count(20), 12);
        x.undo();
        Check.due("setting 0", x.count(20), 3);
    }

    /** "everything before it but the text" */
    static void statesDoNotHoldTheText() {
        SpilledGroups x = withText(0, "1=1;");
        x.row(5, 5);
        x.clearText();
        Check.type(x, "22=22;");
        x.undo();
        Check.due("length", x.count(4), 6);
        Check.due("play()", x.play(), 1);
        Check.due("key", x.rowOf(0, 0), 22);
    }

    /** "A call that returns an error changes nothing.": the latest state is still there */
    static void aRefusedCallLeavesTheHistory() {
        SpilledGroups x = Check.withRows(1, 1);
        x.set(0, 7);
        x.row(10000, 0);
        x.drop(1);
        x.set(1, 5);
        Check.due("undo()", x.undo(), 1);
        Check.due("the limit", x.count(20), 3);
        Check.due("rows", x.count(0), 1);
    }

    // ---- Promise 16: count

    /** "0: rows": none, one, 100 */
    static void promise16Rows() {
        for (int rows : new int[] {0, 1, 100}) {
            Check.due("count(0)", Examples.unlike(rows).count(0), rows);
        }
    }

    /** "1: the sum of all values": without rows, and at its ends */
    static void promise16Sum() {
        Check.due("of none", new SpilledGroups().count(1), 0);
        Check.due("of 5, -5 and 0", Check.withRows(1, 5, 2, -5, 3, 0).count(1), 0);
        for (int value : new int[] {-999, 999}) {
            SpilledGroups x = new SpilledGroups();
            for (int i = 0; i < 100; i++) {
                x.row(i, value);
            }
            Check.due("of 100 times " + value, x.count(1), 100 * value);
        }
    }

    /** "2: unlike keys": none, one of 100 rows, 100 */
    static void promise16UnlikeKeys() {
        Check.due("of none", new SpilledGroups().count(2), 0);
        SpilledGroups x = new SpilledGroups();
        for (int i = 0; i < 100; i++) {
            x.row(9999, i);
        }
        Check.due("of one", x.count(2), 1);
        Check.due("of 100", Examples.unlike(100).count(2), 100);
        Check.due("of neighbours", Check.withRows(0, 1, 1, 1, 0, 1, 9999, 1, 9998, 1, 9999, 1).count(2), 4);
    }

    /** "what: 0 .. 4, 20 to 22" */
    static void promise16Invalid() {
        SpilledGroups x = new SpilledGroups();
        Check.due("count(20)", x.count(20), 3);
        Check.due("count(22)", x.count(22), 40503);
        for (int what : new int[] {-1, 5, 6, 10, 19, 23, LEAST, MOST}) {
            Check.due("count(" + what + ")", x.count(what), INVALID);
        }
    }

    // ---- Promise 17: undo

    /** "Returns the number of states that are left in the history": 3 of 4, 0 of 1 */
    static void promise17ReturnsTheStatesThatAreLeft() {
        SpilledGroups x = Examples.unlike(100);
        for (int left = 3; left >= 0; left--) {
            Check.due("undo()", x.undo(), left);
            Check.due("states", x.count(3), left);
        }
    }

    /** "NOT_POSSIBLE if it is empty": of a new object, and after the last state; it changes nothing */
    static void promise17NotPossible() {
        Check.due("undo() of a new object", new SpilledGroups().undo(), IMPOSSIBLE);
        SpilledGroups x = Examples.unlike(6);
        for (int i = 0; i < 4; i++) {
            x.undo();
        }
        Check.due("undo() after four", x.undo(), IMPOSSIBLE);
        Check.due("rows", x.count(0), 2);
        Check.due("states", x.count(3), 0);
    }

    /** "Restores the latest state": the groups and the passes are those of then */
    static void promise17GroupsAndPassesOfThen() {
        SpilledGroups x = Examples.byHash(1, 0x2000, 0x2001);
        Check.due("passes", x.total(1), 4);
        x.clear();
        Check.due("passes of none", x.total(1), 1);
        x.undo();
        Check.due("passes again", x.total(1), 4);
        Check.due("groups again", x.total(0), 2);
        Check.due("the key", x.groupOf(1, 0), Examples.key(0x2001));
        Check.due("the part", x.skewed(0), 2);
    }

    /** "which is removed from it": the same state is not restored twice */
    static void promise17TheStateIsRemoved() {
        SpilledGroups x = Check.withRows(1, 1, 2, 2);
        x.undo();
        Check.due("rows", x.count(0), 1);
        x.undo();
        Check.due("rows", x.count(0), 0);
    }

    // ---- Promise 18: type

    /** "character: 32 to 126" */
    static void promise18Character() {
        SpilledGroups x = new SpilledGroups();
        Check.due("type(32)", x.type(32), 1);
        Check.due("type(126)", x.type(126), 2);
        for (int character : new int[] {31, 127, 0, -1, 32 + 65536, LEAST, MOST}) {
            Check.due("type(" + character + ")", x.type(character), INVALID);
        }
        Check.due("length", x.count(4), 2);
    }

    /** "LIMIT_REACHED if it has 60 characters", and it changes nothing */
    static void promise18LimitReached() {
        SpilledGroups x = withText(0, FULL_TEXT);
        Check.due("type of 61", x.type('x'), FULL);
        Check.due("type of 61 once more", x.type('x'), FULL);
        dueNoFault(x, 15);
        x.clearText();
        Check.due("type after clearText()", x.type('x'), 1);
    }

    /** "INVALID_ARGUMENT is returned rather than .. LIMIT_REACHED" */
    static void promise18InvalidRatherThanLimit() {
        SpilledGroups x = withText(0, FULL_TEXT);
        Check.due("type(31)", x.type(31), INVALID);
        Check.due("type(127)", x.type(127), INVALID);
    }

    // ---- Promise 19: clearText

    /** "Empties the text. Returns the length it had.": none, one, 60 */
    static void promise19ClearText() {
        for (String text : new String[] {"", "x", FULL_TEXT}) {
            SpilledGroups x = withText(0, text);
            Check.due("clearText()", x.clearText(), text.length());
            Check.due("length", x.count(4), 0);
            Check.due("fault(0)", x.fault(0), MISSING);
            Check.due("clearText() again", x.clearText(), 0);
        }
    }

    /** "Empties the text.": nothing of the old one is read behind a shorter new one */
    static void promise19NothingOfTheOldText() {
        SpilledGroups x = withText(0, FULL_TEXT);
        x.clearText();
        Check.type(x, "1=1");
        dueFault(x, 0, 1, 3);
        x.type(';');
        dueNoFault(x, 1);
    }

    // ---- Promise 20: fault

    /** "INVALID_ARGUMENT if what is out of range" */
    static void promise20Invalid() {
        SpilledGroups x = withText(0, "x");
        for (int what : new int[] {-1, 3, LEAST, MOST}) {
            Check.due("fault(" + what + ")", x.fault(what), INVALID);
        }
    }

    /** "INVALID_ARGUMENT is returned rather than .. NOT_FOUND" */
    static void promise20InvalidRatherThanNotFound() {
        Check.due("fault(3) of none", new SpilledGroups().fault(3), INVALID);
        Check.due("fault(-1) of a right text", withText(0, "1=1;").fault(-1), INVALID);
    }

    /** "NOT_FOUND if the text has no fault (also if it is empty)" */
    static void promise20NotFound() {
        for (String text : new String[] {"", "1=1;", FULL_TEXT}) {
            SpilledGroups x = withText(0, text);
            for (int what = 0; what <= 2; what++) {
                Check.due("fault(" + what + ")", x.fault(what), MISSING);
            }
        }
    }

    // ---- Promise 21: play

    /** "Adds all rows of the text, which stays." */
    static void promise21TheTextStays() {
        SpilledGroups x = withText(0, FULL_TEXT);
        Check.due("play()", x.play(), 15);
        Check.due("length", x.count(4), 60);
        Check.due("play() again", x.play(), 30);
    }

    /** "They are one change, also if there are none." */
    static void promise21OneChange() {
        SpilledGroups x = withText(0, FULL_TEXT);
        x.play();
        Check.due("states", x.count(3), 1);
        Check.due("undo()", x.undo(), 0);
        Check.due("rows", x.count(0), 0);
        x.clearText();
        Check.due("play() of none", x.play(), 0);
        Check.due("states", x.count(3), 1);
        Check.due("undo()", x.undo(), 0);
    }

    /** "Returns how many rows there are then": with those that were there, up to 100 */
    static void promise21ReturnsHowManyRowsThereAre() {
        Check.due("of none", new SpilledGroups().play(), 0);
        Check.due("behind 7 rows", withText(7, "1=1;").play(), 8);
        Check.due("without a text", withText(7, "").play(), 7);
        Check.due("up to 100", withText(85, FULL_TEXT).play(), 100);
        Check.due("100 without a text", withText(100, "").play(), 100);
    }

    /** "NOT_POSSIBLE if it has a fault": none of the rows ahead of the fault is added */
    static void promise21NotPossible() {
        dueFault(withText(0, "1=1;2=2;x"), 8, 1, 0);
        dueFault(withText(99, "1=1;2=2;"), 4, 2, 1);
        SpilledGroups x = withText(2, "1=1;x");
        x.play();
        Check.due("the row behind the last", x.rowOf(2, 0), MISSING);
        Check.due("groups", x.total(0), 2);
        Check.due("the text stays", x.count(4), 5);
    }

    // ---- What it is

    /** "An object is used for at most 512 calls": the last of them is answered as the first one */
    static void theLastOf512Calls() {
        SpilledGroups x = new SpilledGroups();
        for (int i = 0; i < 255; i++) {
            x.row(i % 100, 1);
            x.undo();
        }
        Check.due("call 511", x.row(9999, -999), 0);
        Check.due("call 512", x.groupOf(0, 2), -999);
    }
}
