/** Promises 16 and 17: count, undo. */
public final class HistoryTest {
    public static void main(String[] args) {
        promise16Count();
        promise16CountWrong();
        promise17Undo();
        promise17UndoFiveChanges();
        promise17UndoKeepsTheText();
        promise17ErrorsAreNoChanges();
        Check.end();
    }

    private static void dueCounts(SpilledGroups x, int... numbers) {
        int[] whats = {0, 1, 2, 3, 4, 20, 21, 22};
        for (int i = 0; i < whats.length; i++) {
            Check.due("count(" + whats[i] + ")", x.count(whats[i]), numbers[i]);
        }
    }

    private static void promise16Count() {
        SpilledGroups x = Check.withRows(5, 999, 5, -7, 8, 100);
        dueCounts(x, 3, 1092, 2, 3, 0, 3, 2, 40503);
        Check.type(x, "ab c");
        x.set(0, 7);
        x.set(1, 3);
        x.set(2, 99);
        dueCounts(x, 3, 1092, 2, 4, 4, 7, 3, 99);
        SpilledGroups y = new SpilledGroups();
        for (int i = 0; i < 100; i++) {
            y.row(1, -999);
        }
        dueCounts(y, 100, -99900, 1, 4, 0, 3, 2, 40503);
    }

    private static void promise16CountWrong() {
        SpilledGroups x = new SpilledGroups();
        for (int what : new int[] {-1, 5, 19, 23, Integer.MIN_VALUE, Integer.MAX_VALUE}) {
            Check.due("count(" + what + ")", x.count(what), SpilledGroups.INVALID_ARGUMENT);
        }
    }

    private static void promise17Undo() {
        SpilledGroups x = new SpilledGroups();
        Check.due("undo() of none", x.undo(), SpilledGroups.NOT_POSSIBLE);
        x.row(1, 2);
        x.row(3, 4);
        x.drop(0);
        x.set(1, 4);
        Check.due("undo() of set", x.undo(), 3);
        dueCounts(x, 1, 4, 1, 3, 0, 3, 2, 40503);
        Check.due("undo() of drop", x.undo(), 2);
        dueCounts(x, 2, 6, 2, 2, 0, 3, 2, 40503);
        Check.due("key", x.rowOf(0, 0), 1);
        Check.due("total after undo", x.total(0), 2);
        x.clear();
        Check.due("states", x.count(3), 3);
        Check.due("undo() of clear", x.undo(), 2);
        Check.due("rows", x.count(0), 2);
        Check.due("undo() of row", x.undo(), 1);
        Check.due("undo() of row", x.undo(), 0);
        dueCounts(x, 0, 0, 0, 0, 0, 3, 2, 40503);
        Check.due("undo() at the end", x.undo(), SpilledGroups.NOT_POSSIBLE);
    }

    private static void promise17UndoFiveChanges() {
        SpilledGroups x = Check.withRows(1, 1, 2, 2, 3, 3, 4, 4, 5, 5, 6, 6);
        Check.due("states", x.count(3), 4);
        for (int left = 3; left >= 0; left--) {
            Check.due("undo()", x.undo(), left);
            Check.due("rows", x.count(0), left + 2);
            Check.due("the last key", x.rowOf(left + 1, 0), left + 2);
        }
        Check.due("undo() of the oldest", x.undo(), SpilledGroups.NOT_POSSIBLE);
        Check.due("rows stay", x.count(0), 2);
        x.row(7, 7);
        Check.due("undo() after all", x.undo(), 0);
        Check.due("rows", x.count(0), 2);
    }

    private static void promise17UndoKeepsTheText() {
        SpilledGroups x = new SpilledGroups();
        Check.type(x, "1=2;");
        x.play();
        x.clearText();
        Check.type(x, "ab");
        Check.due("undo() of play", x.undo(), 0);
        Check.due("rows", x.count(0), 0);
        Check.due("the text stays", x.count(4), 2);
    }

    private static void promise17ErrorsAreNoChanges() {
        SpilledGroups x = Check.withRows(1, 1);
        x.row(-1, 0);
        x.drop(5);
        x.set(0, 99);
        Check.type(x, "x");
        x.play();
        x.clearText();
        x.written(1, 1);
        x.bestBits(1, 1);
        Check.due("states", x.count(3), 1);
        Check.due("undo()", x.undo(), 0);
    }
}
