/** Each sentence that names a boundary case of passes, of what is counted and of the promises 7 to 11: a test of its own. */
public final class BoundaryPassesTest {
    private static final int INVALID = SpilledGroups.INVALID_ARGUMENT;
    private static final int MISSING = SpilledGroups.NOT_FOUND;
    private static final int LEAST = Integer.MIN_VALUE;
    private static final int MOST = Integer.MAX_VALUE;
    private static final int[] LAST_LEVELS = {15, 7, 4, 3};

    public static void main(String[] args) {
        Check.all(BoundaryPassesTest.class);
        Check.end();
    }

    /** Items, groups finished, parts spilled, items written, most groups, passes ahead. */
    private static void duePass(SpilledGroups x, int level, int prefix, int... numbers) {
        int[] got = new int[numbers.length];
        for (int what = 0; what < got.length; what++) {
            got[what] = x.passOf(level, prefix, what);
        }
        Check.dueAll("passOf(" + level + ", " + prefix + ", ..)", got, numbers);
    }

    /** Level, prefix, part, groups out, items of the file. */
    private static void dueSpill(SpilledGroups x, int spill, int... numbers) {
        int[] got = new int[numbers.length];
        for (int what = 0; what < got.length; what++) {
            got[what] = x.spillOf(spill, what);
        }
        Check.dueAll("spillOf(" + spill + ", ..)", got, numbers);
    }

    /** Groups, passes, spills, written, read, highest level, most groups, beyond. */
    private static void dueTotals(SpilledGroups x, int... numbers) {
        int[] got = new int[numbers.length];
        for (int what = 0; what < got.length; what++) {
            got[what] = x.total(what);
        }
        Check.dueAll("total(..)", got, numbers);
    }

    private static void dueFinished(SpilledGroups x, int... hashes) {
        for (int place = 0; place < hashes.length; place++) {
            Check.due("finished(" + place + ")", x.finished(place), Examples.key(hashes[place]));
        }
        Check.due("finished behind the last", x.finished(hashes.length), MISSING);
    }

    // ---- Terms: the levels and their prefixes

    /** "passes of the levels 0 to 16 / b, rounded down, less 1" */
    static void levelsAreUpTo16ByTheBitsLess1() {
        for (int bits = 1; bits <= 4; bits++) {
            SpilledGroups x = Examples.atTheEnds(bits, Examples.HASH_0, Examples.HASH_1);
            int last = LAST_LEVELS[bits - 1];
            for (int level = 0; level <= last; level++) {
                Check.due("items on level " + level + " by " + bits, x.passOf(level, 0, 0), 2);
            }
            for (int level = last + 1; level <= 15; level++) {
                Check.due("items on level " + level + " by " + bits, x.passOf(level, 0, 0), MISSING);
            }
            Check.due("the highest level by " + bits, x.total(5), last);
        }
    }

    /** "rounded down": by 3 bits the last bit of the hash is in no pass, so keys unlike there alone stay together */
    static void theLastBitIsLeftBy3Bits() {
        SpilledGroups x = Examples.byHash(1, 0x2000, 0x2001);
        x.set(1, 3);
        duePass(x, 4, 0x2000 >> 4, 2, 2, 0, 0, 2, 4);
        dueTotals(x, 2, 5, 4, 8, 8, 4, 2, 1);
    }

    /** "(the first l * b bits of the hash, as a number)": none at the level 0, all ones at the greatest hashes */
    static void prefixesOfTheGreatestHashes() {
        for (int bits = 1; bits <= 4; bits++) {
            SpilledGroups x = Examples.atTheEnds(bits, Examples.HASH_65534, Examples.HASH_65535);
            for (int level = 0; level <= LAST_LEVELS[bits - 1]; level++) {
                int prefix = (1 << level * bits) - 1;
                Check.due("items of " + prefix + " on level " + level, x.passOf(level, prefix, 0), 2);
                Check.due("one more on level " + level, x.passOf(level, prefix + 1, 0), MISSING);
                if (level > 0) {
                    Check.due("one less on level " + level, x.passOf(level, prefix - 1, 0), MISSING);
                }
            }
        }
    }

    /** "The part .. is told by the next b bits of the hash": the lowest and the highest part are spilled */
    static void theLowestAndTheHighestPartAreSpilled() {
        int[] highest = {2, 8, 128, 32768};
        for (int bits = 1; bits <= 4; bits++) {
            SpilledGroups x = Examples.atTheEnds(bits, Examples.HASH_0, Examples.HASH_1);
            SpilledGroups y = Examples.atTheEnds(bits, Examples.HASH_65534, Examples.HASH_65535);
            for (int level = 0; level < LAST_LEVELS[bits - 1]; level++) {
                Check.due("the lowest on level " + level, x.passOf(level, 0, 2), 1);
                Check.due("the highest on level " + level, y.passOf(level, (1 << level * bits) - 1, 2), highest[bits - 1]);
            }
        }
    }

    /** "bit k is for the part k": both ends at once */
    static void setsOfPartsHaveBitsFromBothEnds() {
        SpilledGroups x = Examples.atTheEnds(4, Examples.HASH_0, Examples.HASH_1, Examples.HASH_65534, Examples.HASH_65535);
        Check.due("parts 0 and 15", x.passOf(0, 0, 2), 32769);
        Check.due("the highest part", x.spillOf(1, 2), 15);
        Check.due("the lowest part", x.spillOf(0, 2), 0);
    }

    /** "All rows, in their order, are the items of the one pass of the level 0": 100 of them, groups or not */
    static void allRowsAreTheItemsOfLevel0() {
        Check.due("100 groups", Examples.unlike(100).passOf(0, 0, 0), 100);
        SpilledGroups x = new SpilledGroups();
        for (int i = 0; i < 100; i++) {
            x.row(5, i);
        }
        duePass(x, 0, 0, 100, 1, 0, 0, 1, 0);
    }

    /** "the one pass of the level 0" */
    static void level0HasOnePass() {
        SpilledGroups x = Examples.unlike(100);
        for (int prefix : new int[] {1, 2, 3, 65535}) {
            Check.due("passOf(0, " + prefix + ", 0)", x.passOf(0, prefix, 0), MISSING);
        }
    }

    /** "(there is this pass without rows, too)" */
    static void level0HasAPassWithoutRows() {
        SpilledGroups x = new SpilledGroups();
        duePass(x, 0, 0, 0, 0, 0, 0, 0, 0);
        dueTotals(x, 0, 1, 0, 0, 0, 0, 0, 0);
        SpilledGroups y = Examples.unlike(100);
        y.total(1);
        y.clear();
        duePass(y, 0, 0, 0, 0, 0, 0, 0, 0);
        dueTotals(y, 0, 1, 0, 0, 0, 0, 0, 0);
    }

    // ---- Terms: how a pass takes its items

    /** "An item whose part is spilled in this pass goes to the end of the file": also when the memory has room */
    static void anItemOfASpilledPartIsWrittenThoughThereIsRoom() {
        SpilledGroups x = Examples.byHash(2, 0x2000, 0x2100, 0x3000, 0x2200);
        duePass(x, 0, 0, 4, 1, 4, 3, 2, 0);
        duePass(x, 1, 2, 3, 2, 1, 1, 2, 1);
        duePass(x, 2, 0x20, 1, 1, 0, 0, 1, 2);
        dueTotals(x, 4, 3, 2, 4, 4, 2, 2, 0);
        dueFinished(x, 0x3000, 0x2100, 0x2200, 0x2000);
    }

    /** "whose part is spilled in this pass": the same part of another pass is not spilled */
    static void aPartIsSpilledInItsOwnPassAlone() {
        SpilledGroups x = Examples.byHash(1, 0x2200, 0x2210, 0x3000);
        Check.due("part 2 on level 0", x.passOf(0, 0, 2), 4);
        Check.due("part 2 on level 1", x.passOf(1, 2, 2), 4);
        duePass(x, 2, 0x22, 2, 1, 1, 1, 1, 2);
        duePass(x, 3, 0x220, 1, 1, 0, 0, 1, 3);
        dueTotals(x, 3, 4, 3, 5, 5, 3, 1, 0);
    }

    /** "if its group is in the memory, it is added to it": also when the memory is full */
    static void aGroupInAFullMemoryTakesItsRows() {
        SpilledGroups x = Examples.byHash(2, 0x2000, 0x3000, 0x2000, 0x3000);
        dueTotals(x, 2, 1, 0, 0, 0, 0, 2, 0);
        Check.due("rows of the first group", x.groupOf(0, 1), 2);
        Check.due("rows of the last group", x.groupOf(1, 1), 2);
    }

    /** "if the memory has fewer groups than the limit (setting 0), its group is laid there": up to the limit, not beyond */
    static void theMemoryTakesAsManyGroupsAsTheLimit() {
        for (int limit = 1; limit <= 12; limit++) {
            SpilledGroups x = Examples.unlike(limit);
            x.set(0, limit);
            duePass(x, 0, 0, limit, limit, 0, 0, limit, 0);
            x.row(9999, 1);
            Check.due("the most groups by " + limit, x.passOf(0, 0, 4), limit);
            Check.due("a spill by " + limit, Integer.bitCount(x.passOf(0, 0, 2)), 1);
        }
    }

    /** "if the memory is full and this is the last level, its group is laid there all the same (beyond the limit)" */
    static void theLastLevelGoesBeyondTheLimit() {
        SpilledGroups x = Examples.byHash(1, 0x2000, 0x2001, 0x2002);
        duePass(x, 3, 0x200, 3, 3, 0, 0, 3, 3);
        dueTotals(x, 3, 4, 3, 9, 9, 3, 3, 2);
        x.set(0, 2);
        dueTotals(x, 3, 4, 3, 9, 9, 3, 3, 1);
    }

    /** "if the memory is full and this is the last level": as many groups as the limit are not beyond it */
    static void theLastLevelMayBeFull() {
        SpilledGroups x = Examples.byHash(2, 0x2000, 0x2001, 0x2010);
        duePass(x, 2, 0x20, 3, 1, 1, 2, 2, 2);
        duePass(x, 3, 0x200, 2, 2, 0, 0, 2, 3);
        dueTotals(x, 3, 4, 3, 8, 8, 3, 2, 0);
    }

    /** "if the memory is full and this is the last level": the level ahead of it still spills */
    static void theLevelAheadOfTheLastSpills() {
        SpilledGroups x = Examples.byHash(1, 0x2000, 0x2010);
        duePass(x, 2, 0x20, 2, 1, 1, 1, 1, 2);
        duePass(x, 3, 0x200, 1, 1, 0, 0, 1, 3);
        dueTotals(x, 2, 4, 3, 5, 5, 3, 1, 0);
    }

    /** "if its group is in the memory, it is added to it": also beyond the limit, where it counts once */
    static void groupsBeyondTheLimitTakeTheirRows() {
        SpilledGroups x = Examples.byHash(1, 0x2000, 0x2001, 0x2000, 0x2001);
        duePass(x, 3, 0x200, 4, 2, 0, 0, 2, 3);
        Check.due("beyond", x.total(7), 1);
        Check.due("rows of the first group", x.groupOf(0, 1), 2);
        Check.due("rows of the last group", x.groupOf(1, 1), 2);
    }

    /** "the part of this pass with the most groups in the memory": not the lowest of all */
    static void thePartWithTheMostGroupsIsSpilled() {
        SpilledGroups x = Examples.byHash(3, 0x2000, 0x3000, 0x3100, 0x4000);
        duePass(x, 0, 0, 4, 2, 8, 2, 3, 0);
        dueSpill(x, 0, 0, 0, 3, 2, 2);
    }

    /** "the most groups": not the most rows */
    static void groupsTellThePartAndNotRows() {
        SpilledGroups x = Examples.byHash(3, 0x2000, 0x2000, 0x2000, 0x2000, 0x3000, 0x3100, 0x4000);
        duePass(x, 0, 0, 7, 2, 8, 2, 3, 0);
    }

    /** "with the most groups in the memory": what is in its file does not count */
    static void groupsOfTheFileDoNotCount() {
        SpilledGroups x = Examples.byHash(2, 0x2000, 0x2100, 0x3000, 0x2200, 0x4000, 0x2300, 0x3F00);
        // The memory has 3000 and 4000 then: of two parts with one group the lower; 3F00 goes into its file.
        duePass(x, 0, 0, 7, 1, 12, 6, 2, 0);
        dueSpill(x, 0, 0, 0, 2, 2, 4);
        dueSpill(x, 1, 0, 0, 3, 1, 2);
    }

    /** "of several the lowest" */
    static void ofSeveralPartsTheLowestIsSpilled() {
        SpilledGroups x = Examples.byHash(4, 0x3000, 0x3100, 0x2000, 0x2100, 0x4000);
        duePass(x, 0, 0, 5, 3, 4, 2, 4, 0);
        dueSpill(x, 0, 0, 0, 2, 2, 2);
    }

    /** "then the same item is taken again": its own part was spilled, so it is written */
    static void anItemOfThePartThatIsSpilledIsWritten() {
        SpilledGroups x = Examples.byHash(2, 0x3000, 0x3100, 0x3200);
        duePass(x, 0, 0, 3, 0, 8, 3, 2, 0);
        dueSpill(x, 0, 0, 0, 3, 2, 3);
    }

    /** "then the same item is taken again": another part was spilled, so its group is laid into the memory */
    static void anItemOfAnotherPartIsLaidIntoTheMemory() {
        SpilledGroups x = Examples.byHash(1, 0x2000, 0x3000, 0x4000);
        duePass(x, 0, 0, 3, 1, 12, 2, 1, 0);
        dueFinished(x, 0x4000, 0x2000, 0x3000);
    }

    /** "its groups go to the end of its file, in the order of their keys": groups ahead of the rows that follow */
    static void groupsAreAheadOfRowsInTheFile() {
        SpilledGroups x = Examples.byHash(1, 0x2300, 0x2100, 0x2300, 0x2200);
        // The file: the group 2300, the rows 2100, 2300, 2200. So the level 1 spills the parts 3, 1 and holds 2200.
        duePass(x, 1, 2, 4, 1, 10, 3, 1, 1);
        dueSpill(x, 1, 1, 2, 3, 1, 2);
        dueSpill(x, 2, 1, 2, 1, 1, 1);
        dueFinished(x, 0x2200, 0x2100, 0x2300);
    }

    /** "the groups that are left in the memory are finished (in the order of their keys)": not as they came */
    static void groupsAreFinishedInTheOrderOfTheirKeys() {
        dueFinished(Examples.byHash(3, 0x4000, 0x2000, 0x3000), 0x2000, 0x3000, 0x4000);
        SpilledGroups x = Check.withRows(2, 0, 3, 0, 1, 0);
        // The greater the key, the less is the hash.
        x.set(2, 65535);
        for (int place = 0; place < 3; place++) {
            Check.due("finished(" + place + ")", x.finished(place), place + 1);
        }
    }

    /** "and the memory is empty": the next pass has room for as many groups as the limit */
    static void theNextPassBeginsWithAnEmptyMemory() {
        SpilledGroups x = Examples.byHash(2, 0x2000, 0x2100, 0x3000, 0x4000);
        duePass(x, 0, 0, 4, 2, 4, 2, 2, 0);
        duePass(x, 1, 2, 2, 2, 0, 0, 2, 1);
    }

    /** "for each part that was spilled in this pass, the lowest first": also if it was spilled later */
    static void theLowestPartIsComeBackToFirst() {
        SpilledGroups x = Examples.byHash(2, 0x3000, 0x3100, 0x2000, 0x2100, 0x4000);
        dueSpill(x, 0, 0, 0, 3, 2, 2);
        dueSpill(x, 1, 0, 0, 2, 2, 2);
        duePass(x, 1, 2, 2, 2, 0, 0, 2, 1);
        duePass(x, 1, 3, 2, 2, 0, 0, 2, 2);
        dueFinished(x, 0x4000, 0x2000, 0x2100, 0x3000, 0x3100);
    }

    /** "for each part that was spilled": there is no pass for the others */
    static void partsThatAreNotSpilledHaveNoPass() {
        SpilledGroups x = Examples.byHash(2, 0x2000, 0x2100, 0x3000, 0x4000);
        Check.due("part 3", x.passOf(1, 3, 0), MISSING);
        Check.due("part 4", x.passOf(1, 4, 0), MISSING);
        Check.due("passes", x.total(1), 2);
    }

    /** "(which is done with all its own passes before the next part's)" */
    static void aFileIsDoneWithAllItsPassesBeforeTheNext() {
        SpilledGroups x = Examples.byHash(1, 0x2000, 0x2100, 0x3000, 0x3100);
        duePass(x, 0, 0, 4, 0, 12, 4, 1, 0);
        duePass(x, 1, 2, 2, 1, 1, 1, 1, 1);
        duePass(x, 2, 0x20, 1, 1, 0, 0, 1, 2);
        duePass(x, 1, 3, 2, 1, 1, 1, 1, 3);
        duePass(x, 2, 0x30, 1, 1, 0, 0, 1, 4);
        dueFinished(x, 0x2100, 0x2000, 0x3100, 0x3000);
        dueTotals(x, 4, 5, 4, 6, 6, 2, 1, 0);
    }

    /** "whose prefix is this prefix with the bits of this part behind it" */
    static void prefixesHaveTheBitsOfThePartBehind() {
        SpilledGroups x = Examples.byHash(1, 0x2345, 0x2346);
        Check.due("0x2", x.passOf(1, 0x2, 0), 2);
        Check.due("0x23", x.passOf(2, 0x23, 0), 2);
        Check.due("0x234", x.passOf(3, 0x234, 0), 2);
        x.set(1, 3);
        // 001 000 110 100 0101 and 0110: the fifth parts are 010 and 011.
        Check.due("001", x.passOf(1, 01, 0), 2);
        Check.due("001 000", x.passOf(2, 010, 0), 2);
        Check.due("001 000 110", x.passOf(3, 0106, 0), 2);
        Check.due("001 000 110 100", x.passOf(4, 01064, 0), 2);
    }

    // ---- Terms: what is counted

    /** "An item that goes into a file is written (groups, too)": a group of many rows is one item */
    static void aGroupIsWrittenAsOneItem() {
        SpilledGroups x = Examples.byHash(1, 0x2000, 0x2000, 0x2000, 0x3000);
        dueTotals(x, 2, 2, 1, 1, 1, 1, 1, 0);
        duePass(x, 1, 2, 1, 1, 0, 0, 1, 1);
        Check.due("its rows", x.groupOf(0, 1), 3);
    }

    /** "An item that goes into a file is written": each row that comes behind its group is one more */
    static void rowsBehindTheirGroupAreWrittenOneByOne() {
        SpilledGroups x = Examples.byHash(1, 0x2000, 0x2000, 0x3000, 0x2000, 0x2000);
        dueTotals(x, 2, 2, 1, 3, 3, 1, 1, 0);
        dueSpill(x, 0, 0, 0, 2, 1, 3);
        Check.due("its rows", x.groupOf(0, 1), 4);
    }

    /** "and is read when its pass takes it": once, also if it is taken again after a spill */
    static void anItemThatIsTakenAgainIsReadOnce() {
        SpilledGroups x = Examples.byHash(1, 0x2000, 0x2100);
        // The row 2100 spills on the level 0 and, read from the file, once more on the level 1.
        dueTotals(x, 2, 3, 2, 3, 3, 2, 1, 0);
    }

    /** "items that are read from files": the rows of the level 0 are not */
    static void rowsOfLevel0AreNotRead() {
        SpilledGroups x = Examples.byHash(12, 0x2000, 0x2100, 0x3000);
        Check.due("written", x.total(3), 0);
        Check.due("read", x.total(4), 0);
    }

    /** "Spills are numbered in their order, from 0.": those of a pass ahead of those of its files' passes */
    static void spillsAreNumberedInTheirOrder() {
        SpilledGroups x = Examples.byHash(1, 0x3000, 0x3100, 0x2000, 0x2100);
        dueSpill(x, 0, 0, 0, 3, 1, 2);
        dueSpill(x, 1, 0, 0, 2, 1, 2);
        dueSpill(x, 2, 1, 2, 0, 1, 1);
        dueSpill(x, 3, 1, 3, 0, 1, 1);
        dueSpill(x, 4, MISSING);
    }

    // ---- Promise 7: groupOf

    /** "0 for the one with the lowest key, and so on": the keys 0 and 9999 are the first and the last */
    static void promise7TheLowestAndTheGreatestKey() {
        SpilledGroups x = Check.withRows(9999, 1, 5000, 2, 0, 3);
        Check.due("the first", x.groupOf(0, 0), 0);
        Check.due("the second", x.groupOf(1, 0), 5000);
        Check.due("the last", x.groupOf(2, 0), 9999);
    }

    /** "the level of the pass that finished it", "the prefix of this pass": level 0 and the last one */
    static void promise7LevelsAndPrefixesAtTheEnds() {
        SpilledGroups x = Check.withRows(1, 1);
        Check.due("level 0", x.groupOf(0, 5), 0);
        Check.due("prefix 0", x.groupOf(0, 6), 0);
        int[] prefixes = {32767, 16383, 4095, 4095};
        for (int bits = 1; bits <= 4; bits++) {
            SpilledGroups y = Examples.atTheEnds(bits, Examples.HASH_65535, Examples.HASH_65534);
            for (int index = 0; index < 2; index++) {
                Check.due("the last level", y.groupOf(index, 5), LAST_LEVELS[bits - 1]);
                Check.due("the greatest prefix", y.groupOf(index, 6), prefixes[bits - 1]);
            }
        }
    }

    /** "how many groups were finished ahead of it": 0 for the first one, 99 for the last of 100 */
    static void promise7HowManyGroupsAreAhead() {
        SpilledGroups x = Examples.unlike(100);
        boolean[] seen = new boolean[100];
        for (int index = 0; index < 100; index++) {
            int ahead = x.groupOf(index, 7);
            Check.that(ahead >= 0 && ahead < 100 && !seen[ahead], "groupOf(" + index + ", 7) answered " + ahead);
            seen[Math.floorMod(ahead, 100)] = true;
            Check.due("the key there", x.finished(ahead), index * 11);
        }
    }

    /** "INVALID_ARGUMENT if what is out of range" */
    static void promise7InvalidWhat() {
        SpilledGroups x = Check.withRows(1, 1);
        for (int what : new int[] {-1, 8, LEAST, MOST}) {
            Check.due("groupOf(0, " + what + ")", x.groupOf(0, what), INVALID);
        }
    }

    /** "INVALID_ARGUMENT if .. index is negative" */
    static void promise7InvalidIndex() {
        SpilledGroups x = Check.withRows(1, 1);
        for (int what = 0; what <= 7; what++) {
            Check.due("groupOf(-1, " + what + ")", x.groupOf(-1, what), INVALID);
            Check.due("groupOf(least, " + what + ")", x.groupOf(LEAST, what), INVALID);
        }
    }

    /** "INVALID_ARGUMENT is returned rather than .. NOT_FOUND" */
    static void promise7InvalidRatherThanNotFound() {
        Check.due("groupOf(0, 8) of none", new SpilledGroups().groupOf(0, 8), INVALID);
        Check.due("groupOf(0, -1) of none", new SpilledGroups().groupOf(0, -1), INVALID);
        Check.due("groupOf(-1, 0) of none", new SpilledGroups().groupOf(-1, 0), INVALID);
    }

    /** "NOT_FOUND if there are not so many": groups, not rows */
    static void promise7NotFound() {
        SpilledGroups x = Check.withRows(1, 1, 1, 2, 2, 3);
        SpilledGroups y = Examples.unlike(100);
        for (int what = 0; what <= 7; what++) {
            Check.due("groupOf(0, ..) of none", new SpilledGroups().groupOf(0, what), MISSING);
            Check.due("groupOf(2, ..) of two", x.groupOf(2, what), MISSING);
            Check.due("groupOf(100, ..) of 100", y.groupOf(100, what), MISSING);
            Check.due("groupOf(most, ..)", y.groupOf(MOST, what), MISSING);
        }
        Check.due("groupOf(1, 0) of two", x.groupOf(1, 0), 2);
        Check.due("groupOf(99, 0) of 100", y.groupOf(99, 0), 1089);
    }

    /** "NOT_FOUND if there are not so many": groups that are gone with their rows, asked about ahead of that */
    static void promise7NotFoundOfGroupsThatAreGone() {
        SpilledGroups x = Check.withRows(1, 1, 2, 2, 2, 3);
        Check.due("rows of the last group", x.groupOf(1, 1), 2);
        x.drop(2);
        Check.due("rows of it after a drop", x.groupOf(1, 1), 1);
        Check.due("its greatest value", x.groupOf(1, 4), 2);
        x.drop(1);
        Check.due("the group of no row", x.groupOf(1, 0), MISSING);
        Check.due("unlike keys", x.count(2), 1);
        Check.due("enough()", x.enough(), 1);
        x.clear();
        Check.due("after clear()", x.groupOf(0, 0), MISSING);
        Check.due("unlike keys", x.count(2), 0);
        x.undo();
        Check.due("after undo()", x.groupOf(0, 0), 1);
        Check.due("its rows", x.groupOf(0, 1), 1);
        Check.due("not so many", x.groupOf(1, 0), MISSING);
    }

    // ---- Promise 8: finished

    /** "0 for the first one, and so on": the first and the last */
    static void promise8TheFirstAndTheLast() {
        SpilledGroups x = Examples.byHash(1, 0x2000, 0x3000, 0x4000);
        Check.due("the first", x.finished(0), Examples.key(0x4000));
        Check.due("the last", x.finished(2), Examples.key(0x3000));
    }

    /** "INVALID_ARGUMENT if place is negative": also without groups */
    static void promise8Invalid() {
        Check.due("finished(-1)", Check.withRows(1, 1).finished(-1), INVALID);
        Check.due("finished(least)", Check.withRows(1, 1).finished(LEAST), INVALID);
        Check.due("finished(-1) of none", new SpilledGroups().finished(-1), INVALID);
    }

    /** "NOT_FOUND if there are not so many": groups, not rows */
    static void promise8NotFound() {
        Check.due("finished(0) of none", new SpilledGroups().finished(0), MISSING);
        Check.due("finished(1) of one", Check.withRows(1, 1, 1, 2).finished(1), MISSING);
        Check.due("finished(100) of 100", Examples.unlike(100).finished(100), MISSING);
        Check.due("finished(most)", Examples.unlike(100).finished(MOST), MISSING);
    }

    // ---- Promise 9: passOf

    /** "level: 0 to 15" */
    static void promise9Level() {
        SpilledGroups x = Check.withRows(1, 1);
        Check.due("level 0", x.passOf(0, 0, 0), 1);
        Check.due("level 15", x.passOf(15, 0, 0), MISSING);
        for (int level : new int[] {-1, 16, LEAST, MOST}) {
            Check.due("level " + level, x.passOf(level, 0, 0), INVALID);
        }
    }

    /** "prefix: 0 to 65535" */
    static void promise9Prefix() {
        SpilledGroups x = Check.withRows(1, 1);
        Check.due("prefix 65535", x.passOf(0, 65535, 0), MISSING);
        for (int prefix : new int[] {-1, 65536, LEAST, MOST}) {
            Check.due("prefix " + prefix, x.passOf(0, prefix, 0), INVALID);
        }
    }

    /** "what: 0 .. 5" */
    static void promise9What() {
        SpilledGroups x = Check.withRows(1, 1);
        Check.due("what 5", x.passOf(0, 0, 5), 0);
        for (int what : new int[] {-1, 6, LEAST, MOST}) {
            Check.due("what " + what, x.passOf(0, 0, what), INVALID);
        }
    }

    /** "INVALID_ARGUMENT is returned rather than .. NOT_FOUND" */
    static void promise9InvalidRatherThanNotFound() {
        SpilledGroups x = Check.withRows(1, 1);
        Check.due("passOf(1, 1, 6)", x.passOf(1, 1, 6), INVALID);
        Check.due("passOf(1, 65536, 0)", x.passOf(1, 65536, 0), INVALID);
        Check.due("passOf(16, 1, 0)", x.passOf(16, 1, 0), INVALID);
    }

    /** "NOT_FOUND if there is no such pass": the level's prefix with another level, a level too deep by the bits */
    static void promise9NotFound() {
        SpilledGroups x = Examples.byHash(1, 0x2000, 0x2001);
        Check.due("the last pass", x.passOf(3, 0x200, 0), 2);
        for (int what = 0; what <= 5; what++) {
            Check.due("another level's prefix", x.passOf(2, 0x200, what), MISSING);
            Check.due("the level behind the last", x.passOf(4, 0x2000, what), MISSING);
            Check.due("another prefix", x.passOf(3, 0x201, what), MISSING);
        }
    }

    /** "NOT_FOUND if there is no such pass": one that there was by another limit or with other rows */
    static void promise9NotFoundOfPassesThatAreGone() {
        SpilledGroups x = Examples.byHash(1, 0x2000, 0x2001);
        Check.due("it is there", x.passOf(1, 2, 0), 2);
        x.set(0, 2);
        Check.due("by another limit", x.passOf(1, 2, 0), MISSING);
        x.undo();
        Check.due("it is there again", x.passOf(1, 2, 0), 2);
        x.drop(1);
        Check.due("with one row", x.passOf(1, 2, 0), MISSING);
    }

    /** "the most groups in the memory at a time": ahead of a spill, not those at the end */
    static void promise9TheMostGroupsAtATime() {
        SpilledGroups x = Examples.byHash(3, 0x3000, 0x3100, 0x3200, 0x2000);
        duePass(x, 0, 0, 4, 1, 8, 3, 3, 0);
    }

    // ---- Promise 10: spillOf

    /** "its number, 0 or more" */
    static void promise10InvalidSpill() {
        SpilledGroups x = Examples.byHash(1, 0x2000, 0x3000);
        for (int what = 0; what <= 4; what++) {
            Check.due("spillOf(-1, " + what + ")", x.spillOf(-1, what), INVALID);
            Check.due("spillOf(least, " + what + ")", x.spillOf(LEAST, what), INVALID);
        }
    }

    /** "INVALID_ARGUMENT if what is out of range" */
    static void promise10InvalidWhat() {
        SpilledGroups x = Examples.byHash(1, 0x2000, 0x3000);
        Check.due("what 4", x.spillOf(0, 4), 1);
        for (int what : new int[] {-1, 5, LEAST, MOST}) {
            Check.due("spillOf(0, " + what + ")", x.spillOf(0, what), INVALID);
        }
    }

    /** "INVALID_ARGUMENT is returned rather than .. NOT_FOUND" */
    static void promise10InvalidRatherThanNotFound() {
        SpilledGroups x = new SpilledGroups();
        Check.due("spillOf(0, 5) of none", x.spillOf(0, 5), INVALID);
        Check.due("spillOf(0, -1) of none", x.spillOf(0, -1), INVALID);
        Check.due("spillOf(-1, 0) of none", x.spillOf(-1, 0), INVALID);
    }

    /** "NOT_FOUND if there are not so many" */
    static void promise10NotFound() {
        SpilledGroups x = Examples.byHash(1, 0x2000, 0x3000);
        for (int what = 0; what <= 4; what++) {
            Check.due("spillOf(0, ..) of none", new SpilledGroups().spillOf(0, what), MISSING);
            Check.due("spillOf(1, ..) of one", x.spillOf(1, what), MISSING);
            Check.due("spillOf(most, ..)", x.spillOf(MOST, what), MISSING);
        }
    }

    /** "how many groups went out of the memory": one, and as many as the greatest limit */
    static void promise10GroupsOut() {
        SpilledGroups x = Examples.byHash(12, 0x2000, 0x2100, 0x2200, 0x2300, 0x2400, 0x2500, 0x2600, 0x2700, 0x2800, 0x2900,
            0x2A00, 0x2B00, 0x2C00);
        dueSpill(x, 0, 0, 0, 2, 12, 13);
        x.set(0, 1);
        dueSpill(x, 0, 0, 0, 2, 1, 13);
    }

    /** "how many items its file has in the end": not how many it has at the spill */
    static void promise10ItemsInTheEnd() {
        SpilledGroups x = Examples.byHash(1, 0x2000, 0x3000, 0x2000, 0x2000, 0x3000);
        dueSpill(x, 0, 0, 0, 2, 1, 3);
    }

    // ---- Promise 11: total

    /** "what: 0 .. 7" */
    static void promise11Invalid() {
        SpilledGroups x = Check.withRows(1, 1);
        Check.due("total(0)", x.total(0), 1);
        Check.due("total(7)", x.total(7), 0);
        for (int what : new int[] {-1, 8, LEAST, MOST}) {
            Check.due("total(" + what + ")", x.total(what), INVALID);
        }
    }

    /** "the highest level": of all passes, not of the last one */
    static void promise11TheHighestLevel() {
        SpilledGroups x = Examples.byHash(1, 0x2000, 0x2100, 0x3000, 0x4000);
        // The last pass is that of the part 3 on the level 1, the highest level is in the part 2.
        duePass(x, 1, 3, 1, 1, 0, 0, 1, 3);
        Check.due("the highest level", x.total(5), 2);
    }

    /** "the most groups in the memory at a time": of all passes, the first or a later one */
    static void promise11TheMostGroups() {
        SpilledGroups x = Examples.byHash(3, 0x2000, 0x2100, 0x3000, 0x4000);
        duePass(x, 1, 2, 2, 2, 0, 0, 2, 1);
        Check.due("those of the level 0", x.total(6), 3);
        Check.due("those of the last level", Examples.byHash(1, 0x2000, 0x2001, 0x3000).total(6), 2);
    }

    /** "groups that were laid beyond the limit": of all passes of the last level together */
    static void promise11BeyondTheLimit() {
        SpilledGroups x = Examples.byHash(1, 0x2000, 0x2001, 0x3000, 0x3001, 0x3002);
        Check.due("beyond", x.total(7), 3);
        x.set(0, 3);
        Check.due("beyond by 3", x.total(7), 0);
    }

    /** The least number of each kind is 0, or 1 of passes; 100 unlike keys are 100 groups. */
    static void promise11OfNoneAndOf100Groups() {
        dueTotals(new SpilledGroups(), 0, 1, 0, 0, 0, 0, 0, 0);
        Check.due("groups", Examples.unlike(100).total(0), 100);
    }
}
