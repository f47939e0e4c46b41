import java.util.Random;

/** Runs of at most 512 calls, by fixed seeds, each call compared with the model's answer. */
public final class ModelTest {
    private static final int CALLS = 512;
    private static final int[] ODD = {Integer.MIN_VALUE, -65537, -1, 0, 1, 2, 3, 16, 100, 65535, 65536, Integer.MAX_VALUE};

    private final Random random;
    private final SpilledGroups x = new SpilledGroups();
    private final Model model = new Model();
    private final String run;
    private final int unlikeKeys;
    private int calls = 0;

    private ModelTest(int seed) {
        random = new Random(seed);
        run = "seed " + seed + ", call ";
        unlikeKeys = new int[] {3, 8, 14, 60, 10000}[random.nextInt(5)];
    }

    public static void main(String[] args) {
        for (int seed = 0; seed < 400; seed++) {
            new ModelTest(seed).mixedRun();
        }
        for (int seed = 400; seed < 440; seed++) {
            new ModelTest(seed).fullRun();
        }
        for (int limit = 1; limit <= 12; limit++) {
            for (int bits = 1; bits <= 4; bits++) {
                new ModelTest(500 + limit * 10 + bits).deepRun(limit, bits, limit % 2 == 0 ? 2 : limit + 1);
            }
        }
        Check.end();
    }

    private void compare(String call, int got, int want) {
        calls++;
        Check.due(run + calls + ": " + call, got, want);
    }

    private void mixedRun() {
        while (calls < CALLS) {
            if (random.nextInt(3) == 0 && calls < CALLS - 70) {
                change();
            } else {
                ask();
            }
        }
    }

    /** 100 rows at once, then questions. */
    private void fullRun() {
        set(0, 1 + random.nextInt(12));
        set(1, 1 + random.nextInt(4));
        set(2, 1 + 2 * random.nextInt(32768));
        for (int i = 0; i < 102; i++) {
            row(random.nextInt(unlikeKeys), random.nextInt(1999) - 999);
        }
        while (calls < CALLS) {
            ask();
        }
    }

    /** Keys whose hashes are alike but for the last bits, so that files go down through all levels. */
    private void deepRun(int limit, int bits, int together) {
        set(0, limit);
        set(1, bits);
        // 43691 * 3 is 1 modulo 65536: keys that differ by 3 have hashes that differ by 1.
        set(2, 43691);
        for (int i = 0; i < 100; i++) {
            row(i / together * 3 * 64 % 9000 + i / together % 3 + 3 * (i % together), i);
        }
        for (int what = 0; what < 8; what++) {
            total(what);
        }
        int[][] names = model.passNames();
        while (calls < CALLS) {
            int[] name = names[random.nextInt(names.length)];
            int what = random.nextInt(6);
            compare("passOf", x.passOf(name[0], name[1], what), model.passOf(name[0], name[1], what));
            ask();
        }
    }

    private void row(int key, int value) {
        compare("row(" + key + ", " + value + ")", x.row(key, value), model.row(key, value));
    }

    private void set(int what, int value) {
        compare("set(" + what + ", " + value + ")", x.set(what, value), model.set(what, value));
    }

    private void total(int what) {
        compare("total(" + what + ")", x.total(what), model.total(what));
    }

    private void type(int character) {
        compare("type(" + character + ")", x.type(character), model.type(character));
    }

    private void play() {
        compare("play()", x.play(), model.play());
    }

    /** A number below the bound, or now and then an odd one. */
    private int some(int bound) {
        return random.nextInt(25) == 0 ? ODD[random.nextInt(ODD.length)] : random.nextInt(bound);
    }

    private void change() {
        int which = random.nextInt(40);
        if (which < 22) {
            row(some(unlikeKeys), some(1999) - 999);
        } else if (which < 25) {
            int row = some(Math.max(1, model.count(0)));
            compare("drop(" + row + ")", x.drop(row), model.drop(row));
        } else if (which < 26) {
            if (random.nextInt(4) == 0) {
                compare("clear()", x.clear(), model.clear());
            }
        } else if (which < 29) {
            set(0, 1 + some(12));
        } else if (which < 32) {
            set(1, 1 + some(4));
        } else if (which < 34) {
            set(2, 1 + 2 * some(32768));
        } else if (which < 36) {
            compare("undo()", x.undo(), model.undo());
        } else if (which < 37) {
            set(some(4), some(70000));
        } else if (which < 39) {
            typeSome();
        } else {
            play();
        }
    }

    private void typeSome() {
        if (random.nextInt(3) == 0) {
            compare("clearText()", x.clearText(), model.clearText());
        }
        if (random.nextInt(4) == 0) {
            type(some(140));
            return;
        }
        StringBuilder text = new StringBuilder();
        int rows = random.nextInt(5);
        for (int i = 0; i < rows; i++) {
            text.append(random.nextInt(unlikeKeys)).append(random.nextBoolean() ? "=" : "=-").append(random.nextInt(1000)).append(';');
        }
        if (random.nextInt(4) == 0 && text.length() > 0) {
            text.insert(random.nextInt(text.length()), "0=-;7 ".charAt(random.nextInt(6)));
        }
        for (int i = 0; i < text.length(); i++) {
            type(text.charAt(i));
        }
        fault();
        play();
    }

    private void fault() {
        int what = some(3);
        compare("fault(" + what + ")", x.fault(what), model.fault(what));
    }

    private void ask() {
        int a = some(14);
        int b = some(5);
        int c = some(8);
        switch (random.nextInt(13)) {
            case 0:
                a = some(Math.max(1, model.count(0) + 1));
                compare("rowOf(" + a + ", " + b + ")", x.rowOf(a, b), model.rowOf(a, b));
                break;
            case 1:
            case 2:
                a = some(Math.max(1, model.count(2) + 1));
                compare("groupOf(" + a + ", " + c + ")", x.groupOf(a, c), model.groupOf(a, c));
                break;
            case 3:
                a = some(Math.max(1, model.count(2) + 1));
                compare("finished(" + a + ")", x.finished(a), model.finished(a));
                break;
            case 4:
            case 5:
                askPass(c);
                break;
            case 6:
                a = some(Math.max(1, model.total(2) + 1));
                compare("spillOf(" + a + ", " + b + ")", x.spillOf(a, b), model.spillOf(a, b));
                break;
            case 7:
                total(c);
                break;
            case 8:
                compare("written(" + a + ", " + b + ")", x.written(a, b), model.written(a, b));
                break;
            case 9:
                compare("bestBits(" + a + ", " + b % 2 + ")", x.bestBits(a, b % 2), model.bestBits(a, b % 2));
                break;
            case 10:
                compare("enough()", x.enough(), model.enough());
                break;
            case 11:
                compare("skewed(" + b + ")", x.skewed(b), model.skewed(b));
                break;
            default:
                int what = random.nextBoolean() ? c : some(25);
                compare("count(" + what + ")", x.count(what), model.count(what));
                fault();
        }
    }

    private void askPass(int what) {
        int[][] names = model.passNames();
        int[] name = names[random.nextInt(names.length)];
        int level = random.nextInt(8) == 0 ? some(17) : name[0];
        int prefix = random.nextInt(8) == 0 ? some(65536) : name[1];
        compare("passOf(" + level + ", " + prefix + ", " + what + ")", x.passOf(level, prefix, what), model.passOf(level, prefix, what));
    }
}
