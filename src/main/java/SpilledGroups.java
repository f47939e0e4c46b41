import java.util.Arrays;

/** Groups of rows that are put together in a memory that is too small. */
public final class SpilledGroups {
    public static final int INVALID_ARGUMENT = -1000001;
    public static final int NOT_POSSIBLE = -1000002;
    public static final int LIMIT_REACHED = -1000003;
    public static final int NOT_FOUND = -1000004;

    private static final int MOST_ROWS = 100;
    private static final int MOST_KEY = 9999;
    private static final int MOST_VALUE = 999;
    private static final int MOST_STATES = 4;
    private static final int MOST_CHARACTERS = 60;

    private static final int LIMIT = 0;
    private static final int BITS = 1;
    private static final int FACTOR = 2;
    private static final int MOST_LIMIT = 12;
    private static final int MOST_BITS = 4;
    private static final int MOST_FACTOR = 65535;

    private static final int HASH_BITS = 16;
    private static final int MOST_HASH = 65535;
    private static final int HASH_START = 7919;

    /** Where count tells the settings. */
    private static final int COUNT_SETTINGS = 20;

    private final State now;
    private final History history;
    private final Passes passes;
    private final Text text;
    private boolean groupsAreOld;

    public SpilledGroups() {
        now = new State();
        history = new History();
        passes = new Passes();
        text = new Text();
        groupsAreOld = true;
    }

    // ---- rows

    public int row(int key, int value) {
        if (isOutside(key, 0, MOST_KEY) || isOutside(value, -MOST_VALUE, MOST_VALUE)) {
            return INVALID_ARGUMENT;
        }
        if (now.rows.length() >= MOST_ROWS) {
            return LIMIT_REACHED;
        }
        beginChange();
        now.addRow(key, value);
        return now.rows.length() - 1;
    }

    public int drop(int row) {
        if (row < 0) {
            return INVALID_ARGUMENT;
        }
        if (row >= now.rows.length()) {
            return NOT_POSSIBLE;
        }
        beginChange();
        now.rows.remove(row);
        return now.rows.length();
    }

    public int clear() {
        int had = now.rows.length();
        beginChange();
        now.rows.shorten(0);
        return had;
    }

    public int set(int what, int value) {
        if (!isSettingValue(what, value)) {
            return INVALID_ARGUMENT;
        }
        beginChange();
        int was = now.setting(what);
        now.settings.put(what, 0, value);
        return was;
    }

    public int rowOf(int row, int what) {
        if (row < 0 || isOutside(what, 0, 3)) {
            return INVALID_ARGUMENT;
        }
        if (row >= now.rows.length()) {
            return NOT_FOUND;
        }
        switch (what) {
            case 0:
                return now.keyOf(row);
            case 1:
                return now.valueOf(row);
            case 2:
                return now.hashOf(row);
            default:
                return firstPart(now.hashOf(row));
        }
    }

    // ---- groups

    public int groupOf(int index, int what) {
        if (index < 0 || isOutside(what, 0, 7)) {
            return INVALID_ARGUMENT;
        }
        Table facts = groupsNow().facts;
        if (index >= facts.length()) {
            return NOT_FOUND;
        }
        if (what <= Groups.GREATEST) {
            return facts.at(index, what);
        }
        return passesNow().ends.at(index, what - Groups.GREATEST - 1);
    }

    public int finished(int place) {
        if (place < 0) {
            return INVALID_ARGUMENT;
        }
        Passes run = passesNow();
        if (place >= run.order.length()) {
            return NOT_FOUND;
        }
        return run.groups.facts.at(run.order.at(place, 0), Groups.KEY);
    }

    // ---- passes, spills

    public int passOf(int level, int prefix, int what) {
        if (isOutside(level, 0, HASH_BITS - 1) || isOutside(prefix, 0, MOST_HASH)
            || isOutside(what, 0, Passes.AHEAD)) {
            return INVALID_ARGUMENT;
        }
        int pass = passesNow().find(level, prefix);
        return pass < 0 ? NOT_FOUND : passes.passes.at(pass, what);
    }

    public int spillOf(int spill, int what) {
        if (spill < 0 || isOutside(what, 0, Passes.FILE_ITEMS)) {
            return INVALID_ARGUMENT;
        }
        Table spills = passesNow().spills;
        return spill >= spills.length() ? NOT_FOUND : spills.at(spill, what);
    }

    public int total(int what) {
        Passes run = passesNow();
        switch (what) {
            case 0:
                return run.order.length();
            case 1:
                return run.passes.length();
            case 2:
                return run.spills.length();
            case 3:
                return run.itemsFiled();
            case 4:
                return run.itemsRead();
            case 5:
                return run.passes.greatestOf(Passes.LEVEL);
            case 6:
                return run.passes.greatestOf(Passes.PEAK);
            case 7:
                return run.beyond;
            default:
                return INVALID_ARGUMENT;
        }
    }

    // ---- what would be

    public int written(int limit, int bits) {
        if (isOutside(limit, 1, MOST_LIMIT) || isOutside(bits, 1, MOST_BITS)) {
            return INVALID_ARGUMENT;
        }
        return passesBy(limit, bits).itemsFiled();
    }

    public int bestBits(int limit, int what) {
        if (isOutside(limit, 1, MOST_LIMIT) || isOutside(what, 0, 1)) {
            return INVALID_ARGUMENT;
        }
        int best = 1;
        int fewest = passesBy(limit, 1).itemsFiled();
        for (int bits = 2; bits <= MOST_BITS; bits++) {
            int items = passesBy(limit, bits).itemsFiled();
            if (items < fewest) {
                best = bits;
                fewest = items;
            }
        }
        return what == 0 ? best : fewest;
    }

    public int enough() {
        // The level 0 is never the last one, so nothing is spilled just when all groups have room at once.
        int least = Math.max(groupsNow().facts.length(), 1);
        return least > MOST_LIMIT ? NOT_FOUND : least;
    }

    public int skewed(int what) {
        if (isOutside(what, 0, 2)) {
            return INVALID_ARGUMENT;
        }
        if (now.rows.length() == 0) {
            return NOT_FOUND;
        }
        int fullest = 0;
        int most = 0;
        for (int part = 0; part < 1 << now.setting(BITS); part++) {
            int rows = rowsInPart(part);
            if (rows > most) {
                fullest = part;
                most = rows;
            }
        }
        if (what == 0) {
            return fullest;
        }
        return what == 1 ? most : groupsInPart(fullest);
    }

    public int count(int what) {
        switch (what) {
            case 0:
                return now.rows.length();
            case 1:
                return now.rows.sumOf(State.VALUE);
            case 2:
                return groupsNow().facts.length();
            case 3:
                return history.length();
            case 4:
                return text.characters.length();
            case COUNT_SETTINGS + LIMIT:
            case COUNT_SETTINGS + BITS:
            case COUNT_SETTINGS + FACTOR:
                return now.setting(what - COUNT_SETTINGS);
            default:
                return INVALID_ARGUMENT;
        }
    }

    public int undo() {
        if (history.length() == 0) {
            return NOT_POSSIBLE;
        }
        history.restore(now);
        groupsAreOld = true;
        return history.length();
    }

    // ---- texts

    public int type(int character) {
        if (isOutside(character, 32, 126)) {
            return INVALID_ARGUMENT;
        }
        if (text.characters.length() >= MOST_CHARACTERS) {
            return LIMIT_REACHED;
        }
        text.characters.append(character);
        return text.characters.length();
    }

    public int clearText() {
        int had = text.characters.length();
        text.characters.shorten(0);
        return had;
    }

    public int fault(int what) {
        if (isOutside(what, 0, 2)) {
            return INVALID_ARGUMENT;
        }
        text.read(now.rows.length());
        if (text.reason == Text.NO_FAULT) {
            return NOT_FOUND;
        }
        if (what == 0) {
            return text.position;
        }
        return what == 1 ? text.reason : text.cause;
    }

    public int play() {
        text.read(now.rows.length());
        if (text.reason != Text.NO_FAULT) {
            return NOT_POSSIBLE;
        }
        beginChange();
        for (int i = 0; i < text.rows.length(); i++) {
            now.addRow(text.rows.at(i, State.KEY), text.rows.at(i, State.VALUE));
        }
        return now.rows.length();
    }

    // ---- what the calls share

    private static boolean isOutside(int number, int least, int most) {
        return number < least || number > most;
    }

    private static boolean isSettingValue(int what, int value) {
        switch (what) {
            case LIMIT:
                return !isOutside(value, 1, MOST_LIMIT);
            case BITS:
                return !isOutside(value, 1, MOST_BITS);
            case FACTOR:
                return !isOutside(value, 1, MOST_FACTOR) && (value & 1) == 1;
            default:
                return false;
        }
    }

    private void beginChange() {
        history.keep(now);
        groupsAreOld = true;
    }

    private Groups groupsNow() {
        if (groupsAreOld) {
            passes.groups.gather(now);
            passes.forget();
            groupsAreOld = false;
        }
        return passes.groups;
    }

    private Passes passesNow() {
        groupsNow();
        passes.run(now.setting(LIMIT), now.setting(BITS));
        return passes;
    }

    private Passes passesBy(int limit, int bits) {
        groupsNow();
        passes.run(limit, bits);
        return passes;
    }

    private int firstPart(int hash) {
        return hash >> (HASH_BITS - now.setting(BITS));
    }

    private int rowsInPart(int part) {
        int rows = 0;
        for (int row = 0; row < now.rows.length(); row++) {
            if (firstPart(now.hashOf(row)) == part) {
                rows++;
            }
        }
        return rows;
    }

    private int groupsInPart(int part) {
        Table facts = groupsNow().facts;
        int found = 0;
        for (int group = 0; group < facts.length(); group++) {
            if (firstPart(facts.at(group, Groups.HASH)) == part) {
                found++;
            }
        }
        return found;
    }

    /**
     * Rows of numbers, all of one width. Every index is looked at here, so that none can be wrong
     * anywhere: what is outside reads as 0, and is not written.
     */
    private static final class Table {
        private final int[] cells;
        private final int width;
        private final int room;
        private int length;

        Table(int mostRows, int columns) {
            room = Math.max(mostRows, 0);
            width = Math.max(columns, 1);
            cells = new int[room * width];
        }

        int length() {
            return length;
        }

        int at(int row, int column) {
            if (row < 0 || row >= length || column < 0 || column >= width) {
                return 0;
            }
            return cells[row * width + column];
        }

        void put(int row, int column, int number) {
            if (row >= 0 && row < length && column >= 0 && column < width) {
                cells[row * width + column] = number;
            }
        }

        void raise(int row, int column, int by) {
            if (row >= 0 && row < length && column >= 0 && column < width) {
                cells[row * width + column] += by;
            }
        }

        /** Adds a row that begins with a number, the rest of it 0; returns which one it is, or -1 without room. */
        int append(int first) {
            if (length >= room) {
                return -1;
            }
            int start = length * width;
            Arrays.fill(cells, start, start + width, 0);
            cells[start] = first;
            length++;
            return length - 1;
        }

        void insert(int row, int first) {
            if (row < 0 || row > length || length >= room) {
                return;
            }
            int start = row * width;
            System.arraycopy(cells, start, cells, start + width, (length - row) * width);
            Arrays.fill(cells, start, start + width, 0);
            cells[start] = first;
            length++;
        }

        void remove(int row) {
            if (row < 0 || row >= length) {
                return;
            }
            int start = row * width;
            System.arraycopy(cells, start + width, cells, start, (length - row - 1) * width);
            length--;
        }

        void shorten(int rows) {
            if (rows >= 0 && rows < length) {
                length = rows;
            }
        }

        /** Makes it so many rows of zeros. */
        void reset(int rows) {
            length = Math.max(0, Math.min(rows, room));
            Arrays.fill(cells, 0, length * width, 0);
        }

        void copyFrom(Table other) {
            if (other == null || other.width != width || other.length > room) {
                return;
            }
            System.arraycopy(other.cells, 0, cells, 0, other.length * width);
            length = other.length;
        }

        /** Of rows that rise by their first number: how many begin with a lower one. */
        int placeOf(int first) {
            int place = 0;
            for (int step = 64; step > 0; step /= 2) {
                if (place + step <= length && cells[(place + step - 1) * width] < first) {
                    place += step;
                }
            }
            return place;
        }

        int sumOf(int column) {
            int sum = 0;
            for (int row = 0; row < length; row++) {
                sum += at(row, column);
            }
            return sum;
        }

        /** The greatest of numbers that are not negative. */
        int greatestOf(int column) {
            int greatest = 0;
            for (int row = 0; row < length; row++) {
                greatest = Math.max(greatest, at(row, column));
            }
            return greatest;
        }
    }

    /** The rows and the settings: what a change changes. */
    private static final class State {
        static final int KEY = 0;
        static final int VALUE = 1;
        static final int COLUMNS = 2;

        private final Table rows;
        private final Table settings;

        State() {
            rows = new Table(MOST_ROWS, COLUMNS);
            settings = new Table(3, 1);
            settings.append(3);
            settings.append(2);
            settings.append(40503);
        }

        int setting(int what) {
            return settings.at(what, 0);
        }

        int keyOf(int row) {
            return rows.at(row, KEY);
        }

        int valueOf(int row) {
            return rows.at(row, VALUE);
        }

        int hashOf(int row) {
            return (keyOf(row) * setting(FACTOR) + HASH_START) & MOST_HASH;
        }

        void addRow(int key, int value) {
            rows.put(rows.append(key), VALUE, value);
        }

        void copyFrom(State other) {
            rows.copyFrom(other.rows);
            settings.copyFrom(other.settings);
        }
    }

    /** The latest states, in a ring that is made once. */
    private static final class History {
        private final State[] states;
        private int oldest;
        private int length;

        History() {
            states = new State[MOST_STATES];
            for (int i = 0; i < states.length; i++) {
                states[i] = new State();
            }
        }

        int length() {
            return length;
        }

        void keep(State state) {
            if (length == MOST_STATES) {
                oldest = (oldest + 1) % MOST_STATES;
                length--;
            }
            State place = stateAt(length);
            if (place != null) {
                place.copyFrom(state);
                length++;
            }
        }

        void restore(State state) {
            State latest = stateAt(length - 1);
            if (latest != null) {
                state.copyFrom(latest);
                length--;
            }
        }

        private State stateAt(int place) {
            if (place < 0 || place >= MOST_STATES) {
                return null;
            }
            int index = (oldest + place) % MOST_STATES;
            return index < 0 || index >= states.length ? null : states[index];
        }
    }

    /** The groups in the order of their keys. */
    private static final class Groups {
        static final int KEY = 0;
        static final int COUNT = 1;
        static final int SUM = 2;
        static final int LEAST = 3;
        static final int GREATEST = 4;
        static final int HASH = 5;
        static final int COLUMNS = 6;

        private final Table facts;
        /** The group of each row. */
        private final Table ofRows;

        Groups() {
            facts = new Table(MOST_ROWS, COLUMNS);
            ofRows = new Table(MOST_ROWS, 1);
        }

        void gather(State state) {
            facts.shorten(0);
            for (int row = 0; row < state.rows.length(); row++) {
                addRow(state.keyOf(row), state.valueOf(row), state.hashOf(row));
            }
            // Only now, as a new group moves those behind it.
            ofRows.shorten(0);
            for (int row = 0; row < state.rows.length(); row++) {
                ofRows.append(facts.placeOf(state.keyOf(row)));
            }
        }

        private void addRow(int key, int value, int hash) {
            int group = facts.placeOf(key);
            if (group >= facts.length() || facts.at(group, KEY) != key) {
                facts.insert(group, key);
                facts.put(group, HASH, hash);
                facts.put(group, LEAST, value);
                facts.put(group, GREATEST, value);
            }
            facts.raise(group, COUNT, 1);
            facts.raise(group, SUM, value);
            facts.put(group, LEAST, Math.min(facts.at(group, LEAST), value));
            facts.put(group, GREATEST, Math.max(facts.at(group, GREATEST), value));
        }
    }

    /**
     * The passes by one limit and one number of bits. All rows of a key go one way, so that an item,
     * a row or a group, is told by the number of its group alone.
     */
    private static final class Passes {
        // The columns of the passes: 0 to AHEAD as passOf tells them.
        static final int TAKEN = 0;
        static final int FINISHED = 1;
        static final int SPILLED = 2;
        static final int FILED = 3;
        static final int PEAK = 4;
        static final int AHEAD = 5;
        static final int LEVEL = 6;
        static final int PREFIX = 7;
        static final int PASS_COLUMNS = 8;

        // The columns of the spills, as spillOf tells them.
        static final int SPILL_LEVEL = 0;
        static final int SPILL_PREFIX = 1;
        static final int SPILL_PART = 2;
        static final int GROUPS_OUT = 3;
        static final int FILE_ITEMS = 4;
        static final int SPILL_COLUMNS = 5;

        // The columns of the ends, as groupOf tells them behind the facts of a group.
        static final int END_LEVEL = 0;
        static final int END_PREFIX = 1;
        static final int END_PLACE = 2;
        static final int END_COLUMNS = 3;

        // The columns of the parts of the pass that takes its items.
        static final int HELD = 0;
        static final int SPILL = 1;
        static final int PART_COLUMNS = 2;

        /**
         * One bit makes the most passes. Those of one level have no key in common. Those that spill
         * have two keys at least and are not of the last level: 63 on the levels 0 to 5 (1, 2, 4 ..),
         * 50 on each of the levels 6 to 14. The others have one key at least: 100 in all.
         */
        private static final int MOST_PASSES = 63 + 9 * (MOST_ROWS / 2) + MOST_ROWS;

        private final Groups groups;
        private final Table passes;
        private final Table spills;
        private final Table ends;
        /** The groups as they are finished. */
        private final Table order;
        /** The groups in the memory, in the order of their keys. */
        private final Table memory;
        private final Table parts;
        /** The rows, behind them the files of the first pass, behind these the files of a pass of its own .. */
        private final Table items;
        private int beyond;
        private int limit;
        private int bits;
        private int lastLevel;

        Passes() {
            groups = new Groups();
            passes = new Table(MOST_PASSES, PASS_COLUMNS);
            spills = new Table(MOST_PASSES - 1, SPILL_COLUMNS);
            ends = new Table(MOST_ROWS, END_COLUMNS);
            order = new Table(MOST_ROWS, 1);
            memory = new Table(MOST_ROWS, 1);
            parts = new Table(1 << MOST_BITS, PART_COLUMNS);
            items = new Table(HASH_BITS * MOST_ROWS, 1);
        }

        void forget() {
            limit = 0;
        }

        /** Does all passes, if those that stand are not of these settings. */
        void run(int limit, int bits) {
            if (bits < 1 || (this.limit == limit && this.bits == bits)) {
                return;
            }
            this.limit = limit;
            this.bits = bits;
            lastLevel = HASH_BITS / bits - 1;
            beyond = 0;
            passes.shorten(0);
            spills.shorten(0);
            order.shorten(0);
            ends.reset(groups.facts.length());
            items.copyFrom(groups.ofRows);
            runPass(0, 0, 0);
        }

        /** The number of a pass, or -1. */
        int find(int level, int prefix) {
            for (int pass = 0; pass < passes.length(); pass++) {
                if (passes.at(pass, LEVEL) == level && passes.at(pass, PREFIX) == prefix) {
                    return pass;
                }
            }
            return -1;
        }

        int itemsFiled() {
            return passes.sumOf(FILED);
        }

        int itemsRead() {
            return passes.sumOf(TAKEN) - passes.at(0, TAKEN);
        }

        /** Its items are among those from start on: the files of the pass that it belongs to. */
        private void runPass(int level, int prefix, int start) {
            if (level > lastLevel) {
                return;
            }
            int pass = passes.append(0);
            passes.put(pass, AHEAD, pass);
            passes.put(pass, LEVEL, level);
            passes.put(pass, PREFIX, prefix);
            parts.reset(1 << bits);
            int end = items.length();
            for (int i = start; i < end; i++) {
                int group = items.at(i, 0);
                if (prefixOf(group, level) == prefix) {
                    if (needsSpill(pass, level, group)) {
                        spillPart(pass, fullestPart());
                    }
                    takeItem(pass, level, group);
                }
            }
            finishMemory(pass, level, prefix);
            runFiles(level, prefix, passes.at(pass, SPILLED), end);
            items.shorten(end);
        }

        private void runFiles(int level, int prefix, int spilled, int start) {
            for (int part = 0; part < 1 << bits; part++) {
                if (((spilled >> part) & 1) == 1) {
                    runPass(level + 1, (prefix << bits) | part, start);
                }
            }
        }

        private boolean needsSpill(int pass, int level, int group) {
            return memory.length() >= limit && level < lastLevel
                && !isSpilled(pass, partOf(group, level)) && !isHeld(group);
        }

        private void takeItem(int pass, int level, int group) {
            passes.raise(pass, TAKEN, 1);
            int part = partOf(group, level);
            if (isSpilled(pass, part)) {
                items.append(group);
                passes.raise(pass, FILED, 1);
                spills.raise(parts.at(part, SPILL), FILE_ITEMS, 1);
            } else if (!isHeld(group)) {
                layGroup(pass, part, group);
            }
        }

        private void layGroup(int pass, int part, int group) {
            if (memory.length() >= limit) {
                beyond++;
            }
            memory.insert(memory.placeOf(group), group);
            parts.raise(part, HELD, 1);
            passes.put(pass, PEAK, Math.max(passes.at(pass, PEAK), memory.length()));
        }

        private void spillPart(int pass, int part) {
            int level = passes.at(pass, LEVEL);
            int kept = 0;
            for (int i = 0; i < memory.length(); i++) {
                int group = memory.at(i, 0);
                if (partOf(group, level) == part) {
                    items.append(group);
                } else {
                    memory.put(kept, 0, group);
                    kept++;
                }
            }
            int out = memory.length() - kept;
            memory.shorten(kept);
            int spill = spills.append(level);
            spills.put(spill, SPILL_PREFIX, passes.at(pass, PREFIX));
            spills.put(spill, SPILL_PART, part);
            spills.put(spill, GROUPS_OUT, out);
            spills.put(spill, FILE_ITEMS, out);
            parts.put(part, HELD, 0);
            parts.put(part, SPILL, spill);
            passes.raise(pass, SPILLED, 1 << part);
            passes.raise(pass, FILED, out);
        }

        private void finishMemory(int pass, int level, int prefix) {
            passes.put(pass, FINISHED, memory.length());
            for (int i = 0; i < memory.length(); i++) {
                int group = memory.at(i, 0);
                ends.put(group, END_LEVEL, level);
                ends.put(group, END_PREFIX, prefix);
                ends.put(group, END_PLACE, order.append(group));
            }
            memory.shorten(0);
        }

        private int fullestPart() {
            int fullest = 0;
            for (int part = 1; part < parts.length(); part++) {
                if (parts.at(part, HELD) > parts.at(fullest, HELD)) {
                    fullest = part;
                }
            }
            return fullest;
        }

        private boolean isSpilled(int pass, int part) {
            return ((passes.at(pass, SPILLED) >> part) & 1) == 1;
        }

        private boolean isHeld(int group) {
            int place = memory.placeOf(group);
            return place < memory.length() && memory.at(place, 0) == group;
        }

        private int prefixOf(int group, int level) {
            return groups.facts.at(group, Groups.HASH) >> (HASH_BITS - level * bits);
        }

        private int partOf(int group, int level) {
            int prefixBehind = groups.facts.at(group, Groups.HASH) >> (HASH_BITS - (level + 1) * bits);
            return prefixBehind & ((1 << bits) - 1);
        }
    }

    /** The text, and what reading it finds. */
    private static final class Text {
        static final int NO_FAULT = 0;
        static final int BROKEN = 1;
        static final int TOO_MANY = 2;

        private static final int KEY_DIGITS = 4;
        private static final int VALUE_DIGITS = 3;
        private static final int SHORTEST_ROW = 4;
        private static final int NO_NUMBER = -1;

        private final Table characters;
        /** The rows of the text that are possible, with the columns of the rows of a state. */
        private final Table rows;
        private int position;
        private int reason;
        private int cause;
        /** The first character that is not read yet. */
        private int next;

        Text() {
            characters = new Table(MOST_CHARACTERS, 1);
            rows = new Table(MOST_CHARACTERS / SHORTEST_ROW, State.COLUMNS);
        }

        /** Reads the rows up to the fault, with so many rows ahead of the text. */
        void read(int rowsAhead) {
            reason = NO_FAULT;
            rows.shorten(0);
            next = 0;
            for (int i = 0; i < MOST_CHARACTERS && next < characters.length(); i++) {
                position = next;
                if (!readRow()) {
                    reason = BROKEN;
                    cause = next - position;
                    return;
                }
                if (rowsAhead + rows.length() > MOST_ROWS) {
                    reason = TOO_MANY;
                    cause = MOST_ROWS - rowsAhead;
                    return;
                }
            }
        }

        /** Stops at the first character that the form of a row does not allow. */
        private boolean readRow() {
            int key = readNumber(KEY_DIGITS);
            if (key == NO_NUMBER || !readSign('=')) {
                return false;
            }
            boolean isNegative = readSign('-');
            int size = readNumber(VALUE_DIGITS);
            if (size == NO_NUMBER || !readSign(';')) {
                return false;
            }
            rows.put(rows.append(key), State.VALUE, isNegative ? -size : size);
            return true;
        }

        private int readNumber(int mostDigits) {
            int number = NO_NUMBER;
            for (int i = 0; i < mostDigits; i++) {
                int digit = characters.at(next, 0) - '0';
                if (isOutside(digit, 0, 9)) {
                    return number;
                }
                number = Math.max(number, 0) * 10 + digit;
                next++;
            }
            return number;
        }

        private boolean readSign(char sign) {
            if (characters.at(next, 0) != sign) {
                return false;
            }
            next++;
            return true;
        }
    }
}
