import java.util.ArrayDeque;
import java.util.ArrayList;
import java.util.Deque;
import java.util.List;
import java.util.Map;
import java.util.TreeMap;

/** The document once more, as plainly as its words go: real groups, real files, nothing kept from call to call. */
final class Model {
    static final int INVALID = -1000001;
    static final int IMPOSSIBLE = -1000002;
    static final int FULL = -1000003;
    static final int MISSING = -1000004;

    record Row(int key, int value) { }

    record State(List<Row> rows, int limit, int bits, int factor) { }

    /** A row, or several that were put together. */
    static final class Item {
        final int key;
        int count;
        int sum;
        int least;
        int greatest;

        Item(int key, int count, int sum, int least, int greatest) {
            this.key = key;
            this.count = count;
            this.sum = sum;
            this.least = least;
            this.greatest = greatest;
        }

        void add(Item other) {
            count += other.count;
            sum += other.sum;
            least = Math.min(least, other.least);
            greatest = Math.max(greatest, other.greatest);
        }
    }

    static final class Pass {
        int level;
        int prefix;
        int items;
        int peak;
        int written;
        final List<Item> finished = new ArrayList<>();
        final Map<Integer, List<Item>> files = new TreeMap<>();
    }

    static final class Spill {
        Pass pass;
        int part;
        int groups;
    }

    static final class Run {
        final List<Pass> passes = new ArrayList<>();
        final List<Spill> spills = new ArrayList<>();
        final List<Item> finished = new ArrayList<>();
        final Map<Integer, Pass> finisher = new TreeMap<>();
        int written;
        int read;
        int beyond;
    }

    private List<Row> rows = new ArrayList<>();
    private int limit = 3;
    private int bits = 2;
    private int factor = 40503;
    private final Deque<State> history = new ArrayDeque<>();
    private String text = "";

    private void change() {
        history.addLast(new State(new ArrayList<>(rows), limit, bits, factor));
        if (history.size() == 5) {
            history.removeFirst();
        }
    }

    private int hash(int key) {
        return (int) (((long) key * factor + 7919) % 65536);
    }

    /** So many bits of the hash, of which some are skipped, by its 16 signs. */
    private int bitsOf(int key, int from, int many) {
        String signs = Integer.toBinaryString(65536 + hash(key)).substring(1);
        String taken = signs.substring(from, from + many);
        return taken.isEmpty() ? 0 : Integer.parseInt(taken, 2);
    }

    // ---- passes

    Run run(int limit, int bits) {
        Run run = new Run();
        List<Item> items = new ArrayList<>();
        for (Row row : rows) {
            items.add(new Item(row.key, 1, row.value, row.value, row.value));
        }
        pass(run, items, 0, 0, limit, bits);
        return run;
    }

    private void pass(Run run, List<Item> items, int level, int prefix, int limit, int bits) {
        Pass pass = new Pass();
        pass.level = level;
        pass.prefix = prefix;
        pass.items = items.size();
        run.passes.add(pass);
        run.read += level == 0 ? 0 : items.size();
        TreeMap<Integer, Item> memory = new TreeMap<>();
        boolean last = level == 16 / bits - 1;
        for (Item item : items) {
            boolean again = true;
            while (again) {
                again = false;
                int part = bitsOf(item.key, level * bits, bits);
                if (pass.files.containsKey(part)) {
                    write(run, pass, part, item);
                } else if (memory.containsKey(item.key)) {
                    memory.get(item.key).add(item);
                } else if (memory.size() < limit || last) {
                    run.beyond += memory.size() >= limit ? 1 : 0;
                    memory.put(item.key, new Item(item.key, item.count, item.sum, item.least, item.greatest));
                    pass.peak = Math.max(pass.peak, memory.size());
                } else {
                    spill(run, pass, memory, level, bits);
                    again = true;
                }
            }
        }
        for (Item group : memory.values()) {
            pass.finished.add(group);
            run.finished.add(group);
            run.finisher.put(group.key, pass);
        }
        for (Map.Entry<Integer, List<Item>> file : pass.files.entrySet()) {
            pass(run, file.getValue(), level + 1, prefix * (1 << bits) + file.getKey(), limit, bits);
        }
    }

    private void spill(Run run, Pass pass, TreeMap<Integer, Item> memory, int level, int bits) {
        int most = 0;
        Spill spill = new Spill();
        for (int part = 0; part < 1 << bits; part++) {
            int groups = 0;
            for (int key : memory.keySet()) {
                groups += bitsOf(key, level * bits, bits) == part ? 1 : 0;
            }
            if (groups > most) {
                most = groups;
                spill.part = part;
            }
        }
        spill.pass = pass;
        spill.groups = most;
        run.spills.add(spill);
        pass.files.put(spill.part, new ArrayList<>());
        for (int key : new ArrayList<>(memory.keySet())) {
            if (bitsOf(key, level * bits, bits) == spill.part) {
                write(run, pass, spill.part, memory.remove(key));
            }
        }
    }

    private void write(Run run, Pass pass, int part, Item item) {
        pass.files.get(part).add(item);
        pass.written++;
        run.written++;
    }

    // ---- the calls

    int row(int key, int value) {
        if (key < 0 || key > 9999 || value < -999 || value > 999) {
            return INVALID;
        }
        if (rows.size() == 100) {
            return FULL;
        }
        change();
        rows.add(new Row(key, value));
        return rows.size() - 1;
    }

    int drop(int row) {
        if (row < 0) {
            return INVALID;
        }
        if (row >= rows.size()) {
            return IMPOSSIBLE;
        }
        change();
        rows.remove(row);
        return rows.size();
    }

    int clear() {
        int had = rows.size();
        change();
        rows.clear();
        return had;
    }

    int set(int what, int value) {
        boolean right = what == 0 && value >= 1 && value <= 12
            || what == 1 && value >= 1 && value <= 4
            || what == 2 && value >= 1 && value <= 65535 && value % 2 == 1;
        if (!right) {
            return INVALID;
        }
        change();
        int was = count(20 + what);
        limit = what == 0 ? value : limit;
        bits = what == 1 ? value : bits;
        factor = what == 2 ? value : factor;
        return was;
    }

    int rowOf(int row, int what) {
        if (row < 0 || what < 0 || what > 3) {
            return INVALID;
        }
        if (row >= rows.size()) {
            return MISSING;
        }
        int key = rows.get(row).key;
        return new int[] {key, rows.get(row).value, hash(key), bitsOf(key, 0, bits)}[what];
    }

    int groupOf(int index, int what) {
        if (index < 0 || what < 0 || what > 7) {
            return INVALID;
        }
        Run run = run(limit, bits);
        List<Item> groups = new ArrayList<>(run.finished);
        groups.sort((a, b) -> a.key - b.key);
        if (index >= groups.size()) {
            return MISSING;
        }
        Item g = groups.get(index);
        Pass by = run.finisher.get(g.key);
        return new int[] {g.key, g.count, g.sum, g.least, g.greatest, by.level, by.prefix, run.finished.indexOf(g)}[what];
    }

    int finished(int place) {
        if (place < 0) {
            return INVALID;
        }
        List<Item> order = run(limit, bits).finished;
        return place >= order.size() ? MISSING : order.get(place).key;
    }

    int passOf(int level, int prefix, int what) {
        if (level < 0 || level > 15 || prefix < 0 || prefix > 65535 || what < 0 || what > 5) {
            return INVALID;
        }
        List<Pass> passes = run(limit, bits).passes;
        for (Pass p : passes) {
            if (p.level == level && p.prefix == prefix) {
                int set = 0;
                for (int part : p.files.keySet()) {
                    set += 1 << part;
                }
                return new int[] {p.items, p.finished.size(), set, p.written, p.peak, passes.indexOf(p)}[what];
            }
        }
        return MISSING;
    }

    int spillOf(int spill, int what) {
        if (spill < 0 || what < 0 || what > 4) {
            return INVALID;
        }
        List<Spill> spills = run(limit, bits).spills;
        if (spill >= spills.size()) {
            return MISSING;
        }
        Spill s = spills.get(spill);
        return new int[] {s.pass.level, s.pass.prefix, s.part, s.groups, s.pass.files.get(s.part).size()}[what];
    }

    int total(int what) {
        if (what < 0 || what > 7) {
            return INVALID;
        }
        Run run = run(limit, bits);
        int level = 0;
        int peak = 0;
        for (Pass p : run.passes) {
            level = Math.max(level, p.level);
            peak = Math.max(peak, p.peak);
        }
        return new int[] {run.finished.size(), run.passes.size(), run.spills.size(), run.written, run.read, level, peak,
            run.beyond}[what];
    }

    int written(int limit, int bits) {
        if (limit < 1 || limit > 12 || bits < 1 || bits > 4) {
            return INVALID;
        }
        return run(limit, bits).written;
    }

    int bestBits(int limit, int what) {
        if (limit < 1 || limit > 12 || what < 0 || what > 1) {
            return INVALID;
        }
        int best = 4;
        for (int b = 3; b >= 1; b--) {
            best = written(limit, b) <= written(limit, best) ? b : best;
        }
        return what == 0 ? best : written(limit, best);
    }

    int enough() {
        for (int l = 1; l <= 12; l++) {
            if (run(l, bits).spills.isEmpty()) {
                return l;
            }
        }
        return MISSING;
    }

    int skewed(int what) {
        if (what < 0 || what > 2) {
            return INVALID;
        }
        if (rows.isEmpty()) {
            return MISSING;
        }
        int[] best = {0, 0, 0};
        for (int part = 0; part < 1 << bits; part++) {
            int of = 0;
            TreeMap<Integer, Integer> keys = new TreeMap<>();
            for (Row row : rows) {
                if (bitsOf(row.key, 0, bits) == part) {
                    of++;
                    keys.put(row.key, 1);
                }
            }
            if (of > best[1]) {
                best = new int[] {part, of, keys.size()};
            }
        }
        return best[what];
    }

    int count(int what) {
        switch (what) {
            case 0:
                return rows.size();
            case 1:
                return rows.stream().mapToInt(Row::value).sum();
            case 2:
                return (int) rows.stream().mapToInt(Row::key).distinct().count();
            case 3:
                return history.size();
            case 4:
                return text.length();
            case 20:
                return limit;
            case 21:
                return bits;
            case 22:
                return factor;
            default:
                return INVALID;
        }
    }

    int undo() {
        if (history.isEmpty()) {
            return IMPOSSIBLE;
        }
        State state = history.removeLast();
        rows = new ArrayList<>(state.rows);
        limit = state.limit;
        bits = state.bits;
        factor = state.factor;
        return history.size();
    }

    // ---- texts

    int type(int character) {
        if (character < 32 || character > 126) {
            return INVALID;
        }
        if (text.length() == 60) {
            return FULL;
        }
        text += (char) character;
        return text.length();
    }

    int clearText() {
        int had = text.length();
        text = "";
        return had;
    }

    /** Position, reason, cause; nothing without a fault. The rows ahead of it go into the list. */
    private int[] findFault(List<Row> read) {
        String left = text;
        while (!left.isEmpty()) {
            int position = text.length() - left.length();
            if (!left.matches("[0-9]{1,4}=-?[0-9]{1,3};.*")) {
                return new int[] {position, 1, brokenAt(left)};
            }
            if (rows.size() + read.size() == 100) {
                return new int[] {position, 2, 100 - rows.size()};
            }
            int equals = left.indexOf('=');
            int end = left.indexOf(';');
            read.add(new Row(Integer.parseInt(left.substring(0, equals)), Integer.parseInt(left.substring(equals + 1, end))));
            left = left.substring(end + 1);
        }
        return null;
    }

    /** The length of the longest beginning from which a row could still come. */
    private static int brokenAt(String left) {
        int length = 0;
        while (length < left.length()
            && left.substring(0, length + 1).matches("[0-9]{1,4}|[0-9]{1,4}=-?[0-9]{0,3}|[0-9]{1,4}=-?[0-9]{1,3};")) {
            length++;
        }
        return length;
    }

    int fault(int what) {
        if (what < 0 || what > 2) {
            return INVALID;
        }
        int[] fault = findFault(new ArrayList<>());
        return fault == null ? MISSING : fault[what];
    }

    int play() {
        List<Row> read = new ArrayList<>();
        if (findFault(read) != null) {
            return IMPOSSIBLE;
        }
        change();
        rows.addAll(read);
        return rows.size();
    }

    int[][] passNames() {
        List<Pass> passes = run(limit, bits).passes;
        int[][] names = new int[passes.size()][];
        for (int i = 0; i < names.length; i++) {
            names[i] = new int[] {passes.get(i).level, passes.get(i).prefix};
        }
        return names;
    }
}
