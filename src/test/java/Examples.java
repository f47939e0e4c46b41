/** Objects whose passes are worked out by hand in the tests. With the factor 1 the hash of a key is 7919 more. */
final class Examples {
    private Examples() {
    }

    /**
     * By 4 bits the parts of the level 0 are: 0: 1; 273, 274: 2; 4369: 3; 8465: 4. The third row spills
     * the part 2 (two groups), the last one the part 3 (of two with one group the lower).
     */
    static SpilledGroups twoSpills() {
        SpilledGroups x = Check.withRows(274, 2, 273, 1, 4369, 3, 8465, -4, 273, 5, 0, 6);
        x.set(0, 2);
        x.set(1, 4);
        x.set(2, 1);
        return x;
    }

    /** Two keys whose hashes, 8192 and 8193, are alike but for the last bit, with room for one group. */
    static SpilledGroups alike() {
        SpilledGroups x = Check.withRows(273, 1, 274, 2);
        x.set(0, 1);
        x.set(1, 4);
        x.set(2, 1);
        return x;
    }

    /** So many rows with keys of their own. */
    static SpilledGroups unlike(int rows) {
        SpilledGroups x = new SpilledGroups();
        for (int i = 0; i < rows; i++) {
            x.row(i * 11, i);
        }
        return x;
    }
}
