/** Promises 7 and 8: groupOf, finished. */
public final class GroupsTest {
    public static void main(String[] args) {
        promise7GroupOf();
        promise7GroupOfSettings();
        promise7GroupOfWrong();
        promise8Finished();
        promise8FinishedWrong();
        Check.end();
    }

    private static void promise7GroupOf() {
        SpilledGroups x = Examples.twoSpills();
        int[][] groups = {
            {0, 1, 6, 6, 6, 0, 0, 0},
            {273, 2, 6, 1, 5, 1, 2, 2},
            {274, 1, 2, 2, 2, 1, 2, 3},
            {4369, 1, 3, 3, 3, 1, 3, 4},
            {8465, 1, -4, -4, -4, 0, 0, 1},
        };
        for (int index = 0; index < groups.length; index++) {
            for (int what = 0; what < 8; what++) {
                Check.due("groupOf(" + index + ", " + what + ")", x.groupOf(index, what), groups[index][what]);
            }
        }
        Check.due("groupOf(5, 0)", x.groupOf(5, 0), SpilledGroups.NOT_FOUND);
        SpilledGroups y = Check.withRows(7, -999, 7, 999, 7, -999);
        Check.due("sum", y.groupOf(0, 2), -999);
        Check.due("least", y.groupOf(0, 3), -999);
        Check.due("greatest", y.groupOf(0, 4), 999);
        SpilledGroups z = Check.withRows(8, 5, 8, -3, 8, 4);
        Check.due("least of later rows", z.groupOf(0, 3), -3);
        Check.due("greatest of the first row", z.groupOf(0, 4), 5);
    }

    private static void promise7GroupOfSettings() {
        SpilledGroups x = Examples.twoSpills();
        Check.due("level", x.groupOf(1, 5), 1);
        x.written(12, 1);
        x.bestBits(1, 0);
        Check.due("level, other settings asked about", x.groupOf(1, 5), 1);
        x.set(0, 5);
        Check.due("level with room for all", x.groupOf(1, 5), 0);
        Check.due("place with room for all", x.groupOf(1, 7), 1);
        x.undo();
        Check.due("level after undo", x.groupOf(1, 5), 1);
        x.drop(4);
        Check.due("count after drop", x.groupOf(1, 1), 1);
    }

    private static void promise7GroupOfWrong() {
        SpilledGroups x = Examples.twoSpills();
        int[][] wrong = {{-1, 0}, {0, -1}, {0, 8}, {99, 8}, {-1, 8}, {0, Integer.MIN_VALUE}};
        for (int[] w : wrong) {
            Check.due("groupOf(" + w[0] + ", " + w[1] + ")", x.groupOf(w[0], w[1]), SpilledGroups.INVALID_ARGUMENT);
        }
        Check.due("groupOf(most, 7)", x.groupOf(Integer.MAX_VALUE, 7), SpilledGroups.NOT_FOUND);
        Check.due("groupOf of none", new SpilledGroups().groupOf(0, 5), SpilledGroups.NOT_FOUND);
    }

    private static void promise8Finished() {
        SpilledGroups x = Examples.twoSpills();
        int[] order = {0, 8465, 273, 274, 4369};
        for (int place = 0; place < order.length; place++) {
            Check.due("finished(" + place + ")", x.finished(place), order[place]);
        }
        Check.due("finished(5)", x.finished(5), SpilledGroups.NOT_FOUND);
    }

    private static void promise8FinishedWrong() {
        SpilledGroups x = Examples.twoSpills();
        Check.due("finished(-1)", x.finished(-1), SpilledGroups.INVALID_ARGUMENT);
        Check.due("finished(least)", x.finished(Integer.MIN_VALUE), SpilledGroups.INVALID_ARGUMENT);
        Check.due("finished(most)", x.finished(Integer.MAX_VALUE), SpilledGroups.NOT_FOUND);
        Check.due("finished of none", new SpilledGroups().finished(0), SpilledGroups.NOT_FOUND);
    }
}
