/** Objects whose passes are worked out by hand in the tests. With the factor 1 the hash of a key is 7919 more. */
final class Examples {
    private Examples() {
    }

    /**
     * By 4 bits the parts of the level 0 are: 0: 1; 273, 274: 2; 4369: 3; 8465: 4. The third row spills
     * the part 2 (two groups), the last one the part 3 (of two with one group the lower).
     */
    static SpilledGroups twoSpills() {
        SpilledGroups x = Check.withRows(274, 2, 273, 1, 4369, 3, 8465, -4, 273, 5, 0, 6);
        x.set(0, 2);
        x.set(1, 4);
        x.set(2, 1);
        return x;
    }

    /** Two keys whose hashes, 8192 and 8193, are alike but for the last bit, with room for one group. */
    static SpilledGroups alike() {
        SpilledGroups x = Check.withRows(273, 1, 274, 2);
        x.set(0, 1);
        x.set(1, 4);
        x.set(2, 1);
        return x;
    }

    /** So many rows with keys of their own. */
    static SpilledGroups unlike(int rows) {
        SpilledGroups x = new SpilledGroups();
        for (int i = 0; i < rows; i++) {
            x.row(i * 11, i);
        }
        return x;
    }

    /** The key that has this hash, 0x1EEF to 0x45FE, by the factor 1: by 4 bits each sign of the hash is a part. */
    static int key(int hash) {
        return hash - 7919;
    }

    /** Rows with the value 1 whose keys have these hashes, with a limit, and 4 bits. */
    static SpilledGroups byHash(int limit, int... hashes) {
        SpilledGroups x = new SpilledGroups();
        x.set(0, limit);
        x.set(1, 4);
        x.set(2, 1);
        for (int hash : hashes) {
            x.row(key(hash), 1);
        }
        return x;
    }

    /** The keys of the least and the greatest hashes by the factor 12243. */
    static final int HASH_0 = 267;
    static final int HASH_1 = 358;
    static final int HASH_65534 = 85;
    static final int HASH_65535 = 176;

    /** A row for each key, with room for one group, and the factor 12243. */
    static SpilledGroups atTheEnds(int bits, int... keys) {
        SpilledGroups x = new SpilledGroups();
        x.set(0, 1);
        x.set(1, bits);
        x.set(2, 12243);
        for (int key : keys) {
            x.row(key, 1);
        }
        return x;
    }
}
