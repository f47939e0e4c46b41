/** Each sentence that names a boundary case of the promises 12 to 15: a test of its own. */
public final class BoundaryWouldBeTest {
    private static final int INVALID = SpilledGroups.INVALID_ARGUMENT;
    private static final int MISSING = SpilledGroups.NOT_FOUND;
    private static final int LEAST = Integer.MIN_VALUE;
    private static final int MOST = Integer.MAX_VALUE;

    public static void main(String[] args) {
        Check.all(BoundaryWouldBeTest.class);
        Check.end();
    }

    // ---- Promise 12: written

    /** "limit: 1 to 12" */
    static void promise12Limit() {
        SpilledGroups x = Examples.unlike(13);
        for (int limit : new int[] {1, 12}) {
            Check.that(x.written(limit, 4) > 0, "nothing is written by the limit " + limit);
        }
        for (int limit : new int[] {0, 13, -1, LEAST, MOST}) {
            Check.due("written(" + limit + ", 1)", x.written(limit, 1), INVALID);
        }
    }

    /** "bits: 1 to 4" */
    static void promise12Bits() {
        SpilledGroups x = Examples.atTheEnds(2, Examples.HASH_0, Examples.HASH_1);
        Check.due("written(1, 1)", x.written(1, 1), 30);
        Check.due("written(1, 4)", x.written(1, 4), 6);
        for (int bits : new int[] {0, 5, -1, LEAST, MOST}) {
            Check.due("written(1, " + bits + ")", x.written(1, bits), INVALID);
        }
    }

    /** "Tells how many items would be written": none without rows */
    static void promise12WithoutRows() {
        SpilledGroups x = new SpilledGroups();
        for (int bits = 1; bits <= 4; bits++) {
            Check.due("written(1, " + bits + ")", x.written(1, bits), 0);
            Check.due("written(12, " + bits + ")", x.written(12, bits), 0);
        }
    }

    /** "how many items would be written": none by a limit that is the number of groups, some by one less */
    static void promise12AsManyGroupsAsTheLimit() {
        for (int groups = 2; groups <= 12; groups++) {
            SpilledGroups x = Examples.unlike(groups);
            for (int bits = 1; bits <= 4; bits++) {
                Check.due("written(" + groups + ", " + bits + ")", x.written(groups, bits), 0);
                Check.that(x.written(groups - 1, bits) > 0, "nothing is written by one less than " + groups);
            }
        }
    }

    /** "by another limit and other bits": the settings and the passes stay as they are */
    static void promise12TheSettingsStay() {
        SpilledGroups x = Examples.byHash(1, 0x2000, 0x2001);
        Check.due("passes", x.total(1), 4);
        Check.due("written(1, 1)", x.written(1, 1), 30);
        Check.due("passes", x.total(1), 4);
        Check.due("limit", x.count(20), 1);
        Check.due("bits", x.count(21), 4);
    }

    /** "by another limit and other bits": those that are set are told, too */
    static void promise12ByTheSettingsAsTheyAre() {
        SpilledGroups x = Examples.byHash(1, 0x2000, 0x2001);
        Check.due("written(1, 4)", x.written(1, 4), 6);
        Check.due("total(3)", x.total(3), 6);
    }

    // ---- Promise 13: bestBits

    /** "limit: 1 to 12" */
    static void promise13Limit() {
        SpilledGroups x = Examples.unlike(12);
        Check.that(x.bestBits(1, 1) > 0, "nothing is written by the limit 1");
        Check.due("bestBits(12, 1)", x.bestBits(12, 1), 0);
        for (int limit : new int[] {0, 13, -1, LEAST, MOST}) {
            Check.due("bestBits(" + limit + ", 0)", x.bestBits(limit, 0), INVALID);
            Check.due("bestBits(" + limit + ", 1)", x.bestBits(limit, 1), INVALID);
        }
    }

    /** "what: 0 .. 1" */
    static void promise13What() {
        SpilledGroups x = Examples.unlike(12);
        for (int what : new int[] {-1, 2, LEAST, MOST}) {
            Check.due("bestBits(1, " + what + ")", x.bestBits(1, what), INVALID);
        }
    }

    /** "of several the lowest": all four alike */
    static void promise13OfAllTheLowest() {
        Check.due("of none", new SpilledGroups().bestBits(1, 0), 1);
        Check.due("its items", new SpilledGroups().bestBits(1, 1), 0);
        Check.due("of one group", Check.withRows(1, 1).bestBits(1, 0), 1);
        Check.due("of 12 groups by 12", Examples.unlike(12).bestBits(12, 0), 1);
    }

    /** "of several the lowest": 2, 3 and 4 bits are alike, 1 bit is dearer */
    static void promise13Of2To4TheLowest() {
        // 0x2000 and 0x4000 part on the second bit: 2 items and 1 by one bit, 1 by the others.
        SpilledGroups x = Examples.byHash(1, 0x2000, 0x4000);
        int[] items = {3, 1, 1, 1};
        for (int bits = 1; bits <= 4; bits++) {
            Check.due("written(1, " + bits + ")", x.written(1, bits), items[bits - 1]);
        }
        Check.due("bestBits(1, 0)", x.bestBits(1, 0), 2);
        Check.due("bestBits(1, 1)", x.bestBits(1, 1), 1);
    }

    private static void dueBest(SpilledGroups x, int limit, int best, int... items) {
        for (int bits = 1; bits <= 4; bits++) {
            Check.due("written(" + limit + ", " + bits + ")", x.written(limit, bits), items[bits - 1]);
        }
        Check.due("bestBits(" + limit + ", 0)", x.bestBits(limit, 0), best);
        Check.due("bestBits(" + limit + ", 1)", x.bestBits(limit, 1), items[best - 1]);
    }

    /** "the fewest items": by 1 bit alone, which spills a part less than the others */
    static void promise13OneBitAlone() {
        // The hashes 20DE, D116, D501, 7CE5.
        SpilledGroups x = Check.withRows(1485, 1, 5749, 1, 8758, 1, 6626, 1);
        x.set(2, 43691);
        dueBest(x, 2, 1, 2, 3, 3, 3);
    }

    /** "the fewest items": by 2 bits alone */
    static void promise13TwoBitsAlone() {
        dueBest(Examples.byHash(2, 0x3400, 0x4200, 0x4400, 0x1F00), 2, 2, 6, 2, 3, 3);
    }

    /** "the fewest items": by 3 bits alone */
    static void promise13ThreeBitsAlone() {
        dueBest(Examples.byHash(2, 0x3B00, 0x4200, 0x1F00, 0x4100, 0x2100), 2, 3, 9, 4, 3, 4);
    }

    /** "the fewest items": by 4 bits alone */
    static void promise13FourBitsAlone() {
        dueBest(Examples.byHash(1, 0x3000, 0x2D00), 1, 4, 7, 3, 3, 1);
    }

    /** "with some limit": the settings and the passes stay as they are */
    static void promise13TheSettingsStay() {
        SpilledGroups x = Examples.byHash(1, 0x2000, 0x2001);
        x.set(1, 2);
        Check.due("passes", x.total(1), 8);
        Check.due("bestBits(12, 0)", x.bestBits(12, 0), 1);
        Check.due("passes", x.total(1), 8);
        Check.due("limit", x.count(20), 1);
        Check.due("bits", x.count(21), 2);
    }

    // ---- Promise 14: enough

    /** "Returns the limit, 1 to 12": 1 without rows, and with one group of many rows */
    static void promise14TheLeastLimit() {
        Check.due("enough() of none", new SpilledGroups().enough(), 1);
        SpilledGroups x = new SpilledGroups();
        for (int i = 0; i < 100; i++) {
            x.row(5, i);
        }
        Check.due("enough() of one group", x.enough(), 1);
    }

    /** "Returns the limit, 1 to 12": 12 */
    static void promise14TheGreatestLimit() {
        for (int bits = 1; bits <= 4; bits++) {
            SpilledGroups x = Examples.unlike(12);
            x.set(1, bits);
            Check.due("enough() of 12 by " + bits, x.enough(), 12);
        }
    }

    /** "NOT_FOUND if there is none": 13 groups, 100 groups, by all bits */
    static void promise14NotFound() {
        for (int bits = 1; bits <= 4; bits++) {
            SpilledGroups x = Examples.unlike(13);
            x.set(1, bits);
            Check.due("enough() of 13 by " + bits, x.enough(), MISSING);
        }
        Check.due("enough() of 100", Examples.unlike(100).enough(), MISSING);
    }

    /** "the least limit by which nothing would be spilled": by one less something is, by it nothing */
    static void promise14NothingWouldBeSpilled() {
        for (int groups = 2; groups <= 12; groups++) {
            SpilledGroups x = Examples.unlike(groups);
            int enough = x.enough();
            x.set(0, enough);
            Check.due("spills by " + enough, x.total(2), 0);
            x.set(0, enough - 1);
            Check.that(x.total(2) > 0, "no spill by one less than " + enough);
        }
    }

    // ---- Promise 15: skewed

    /** "INVALID_ARGUMENT if what is out of range", and rather than NOT_FOUND */
    static void promise15Invalid() {
        for (int what : new int[] {-1, 3, LEAST, MOST}) {
            Check.due("skewed(" + what + ")", Check.withRows(1, 1).skewed(what), INVALID);
            Check.due("skewed(" + what + ") of none", new SpilledGroups().skewed(what), INVALID);
        }
    }

    /** "NOT_FOUND if there is no row" */
    static void promise15NotFound() {
        SpilledGroups x = Examples.unlike(100);
        x.clear();
        for (int what = 0; what <= 2; what++) {
            Check.due("skewed(" + what + ") of none", new SpilledGroups().skewed(what), MISSING);
            Check.due("skewed(" + what + ") after clear()", x.skewed(what), MISSING);
        }
    }

    /** "the part .. with the most rows": the lowest and the highest part */
    static void promise15TheLowestAndTheHighestPart() {
        int[] highest = {1, 3, 7, 15};
        for (int bits = 1; bits <= 4; bits++) {
            SpilledGroups x = Examples.atTheEnds(bits, Examples.HASH_0, Examples.HASH_65535, Examples.HASH_65534);
            Check.due("the highest part by " + bits, x.skewed(0), highest[bits - 1]);
            Check.due("its rows", x.skewed(1), 2);
            Check.due("its groups", x.skewed(2), 2);
            x.row(Examples.HASH_0, 1);
            x.row(Examples.HASH_0, 1);
            Check.due("the lowest part by " + bits, x.skewed(0), 0);
            Check.due("its rows", x.skewed(1), 3);
            Check.due("its groups", x.skewed(2), 1);
        }
    }

    /** "the part .. with the most rows": one row alone, in the highest part */
    static void promise15OfOneRow() {
        int[] highest = {1, 3, 7, 15};
        for (int bits = 1; bits <= 4; bits++) {
            SpilledGroups x = Examples.atTheEnds(bits, Examples.HASH_65535);
            Check.due("the part by " + bits, x.skewed(0), highest[bits - 1]);
            Check.due("its rows", x.skewed(1), 1);
            Check.due("its groups", x.skewed(2), 1);
        }
    }

    /** "of several the lowest" */
    static void promise15OfSeveralTheLowest() {
        for (int bits = 1; bits <= 4; bits++) {
            SpilledGroups x = Examples.atTheEnds(bits, Examples.HASH_65535, Examples.HASH_0);
            Check.due("of two parts with one row", x.skewed(0), 0);
        }
        SpilledGroups y = Examples.byHash(3, 0x4000, 0x3000, 0x3000, 0x2000, 0x4000);
        Check.due("of two parts with two rows", y.skewed(0), 3);
    }

    /** "the most rows": 100 of them, of one group and of many */
    static void promise15Of100Rows() {
        SpilledGroups x = new SpilledGroups();
        SpilledGroups y = new SpilledGroups();
        for (int i = 0; i < 100; i++) {
            x.row(5, i);
            y.row(i, i);
        }
        Check.due("rows of one group", x.skewed(1), 100);
        Check.due("the group", x.skewed(2), 1);
        y.set(1, 1);
        y.set(2, 1);
        Check.due("rows of 100 groups", y.skewed(1), 100);
        Check.due("the groups", y.skewed(2), 100);
    }
}
