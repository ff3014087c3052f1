import java.util.Arrays;

/** Runs of calls by chance, always the same ones, on PageLoom and on the model: all that can be asked must be alike. */
public final class ModelTest {
    private static int wrong = 0;
    private static long seed;

    private static int chance(int below) {
        seed = seed * 6364136223846793005L + 1442695040888963407L;
        return (int) Math.floorMod(seed >>> 33, (long) below);
    }

    private static boolean oneOf(int many) {
        return chance(many) == 0;
    }

    private interface Call {
        long now();
    }

    private static final long THREW = 1_000_000_000L;

    private static long answer(Call call) {
        try {
            return call.now();
        } catch (IllegalArgumentException e) {
            return THREW + 1;
        } catch (IllegalStateException e) {
            return THREW + 2;
        } catch (IndexOutOfBoundsException e) {
            // What the machine throws is of a class below this one.
            return e.getClass() == IndexOutOfBoundsException.class ? THREW + 3 : THREW + 4;
        }
    }

    private static void due(String where, String what, long got, long want) {
        if (got != want) {
            wrong++;
            if (wrong <= 20) {
                System.out.println(where + ": " + what + " answered " + got + ", due is " + want);
            }
        }
    }

    private static void compare(String where, PageLoom x, Model m) {
        due(where, "records", x.records(), m.records());
        due(where, "durable", x.durable(), m.durable());
        due(where, "writes", x.writes(), m.writes());
        due(where, "hand", x.hand(), m.hand());
        for (int i = 0; i < 4; i++) {
            due(where, "waitsFor " + i, x.waitsFor(i), m.waitsFor(i));
            due(where, "pass " + i, x.pass(i), m.pass(i));
            for (int w = 0; w < 3; w++) {
                due(where, "frame " + i + " " + w, x.frame(i, w), m.frame(i, w));
            }
        }
        for (int p = 0; p < 24; p++) {
            for (int w = 0; w < 4; w++) {
                due(where, "page " + p + " " + w, x.page(p, w), m.page(p, w));
            }
            int n = Math.max(0, m.page(p, 2)) + 1;
            for (int at = 0; at < n; at++) {
                due(where, "entry " + p + " " + at, x.entry(p, at), m.entry(p, at));
            }
        }
        for (int r = Math.max(1, m.records() - 40); r <= m.records(); r++) {
            for (int w = 0; w < 5; w++) {
                due(where, "record " + r + " " + w, x.record(r, w), m.record(r, w));
            }
        }
        for (int k = 0; k < 32; k++) {
            due(where, "holder " + k, x.holder(k), m.holder(k));
            due(where, "plain " + k, x.plain(k), m.plain(k));
        }
        due(where, "agrees", x.agrees() ? 1 : 0, m.agrees() ? 1 : 0);
        due(where, "check", x.check(), m.check());
    }

    /** What must hold whatever is called, as long as there was no crash since. */
    private static void holds(String where, PageLoom x) {
        due(where, "agrees without a crash", x.agrees() ? 1 : 0, 1);
        due(where, "check without a crash", x.check(), 0);
    }

    private static int arg(int below) {
        return oneOf(200) ? (oneOf(2) ? -1 : below) : chance(below);
    }

    private static int style, keys, takes, crashes, txs, lastKey;
    private static boolean rising;
    private static final int[] told = new int[40];

    private static String name;

    private static boolean down(Model m) {
        return m.isDown();
    }

    private static int someone(Model m) {
        int t = arg(txs);
        for (int tries = 0; tries < 3 && !m.isOpen(t); tries++) {
            t = arg(txs);
        }
        return t;
    }

    private static void step(PageLoom x, Model m, int number, int run) {
        int t = someone(m);
        int k = rising && !oneOf(3) ? (lastKey + (oneOf(8) ? 5 : 1)) % keys : arg(keys);
        lastKey = Math.max(0, k);
        int v = arg(1000);
        int what = chance(100);
        long got;
        long want;
        if (down(m) && !oneOf(6)) {
            what = 100;
        }
        if (!m.isOpen(t) && what < 80 && !oneOf(12)) {
            what = 0;
        }
        if (what < 5 || number < 4 && what < 100) {
            name = "open " + t;
            got = answer(() -> { x.open(t); return 0; });
            want = answer(() -> { m.open(t); return 0; });
        } else if (what < 62 - takes) {
            name = "put " + t + " " + k + " " + v;
            got = answer(() -> x.put(t, k, v));
            want = answer(() -> m.put(t, k, v));
        } else if (what < 62) {
            name = "take " + t + " " + k;
            got = answer(() -> x.take(t, k));
            want = answer(() -> m.take(t, k));
        } else if (what < 67) {
            name = "read " + t + " " + k;
            got = answer(() -> x.read(t, k));
            want = answer(() -> m.read(t, k));
        } else if (what < 68) {
            name = "place " + t;
            got = answer(() -> x.place(t));
            want = answer(() -> m.place(t));
        } else if (what < 72) {
            int p = oneOf(20) ? m.records() + 1 : chance(m.records() + 1);
            name = "back " + t + " " + p;
            got = answer(() -> x.back(t, p));
            want = answer(() -> m.back(t, p));
        } else if (what < 80) {
            name = "commit " + t;
            got = answer(() -> x.commit(t));
            want = answer(() -> m.commit(t));
        } else if (what < 84) {
            name = "undo " + t;
            got = answer(() -> x.undo(t));
            want = answer(() -> m.undo(t));
        } else if (what < 87) {
            name = "mark";
            got = answer(() -> x.mark());
            want = answer(() -> m.mark());
        } else if (what < 92) {
            int p = arg(24);
            name = "write " + p;
            got = answer(() -> x.write(p));
            want = answer(() -> m.write(p));
        } else if (what < 92 + crashes) {
            int w = oneOf(50) ? (oneOf(2) ? -1 : 1000) : oneOf(10) ? 0 : 1 + chance(40);
            name = "crashAt " + w;
            got = answer(() -> { x.crashAt(w); return 0; });
            want = answer(() -> { m.crashAt(w); return 0; });
        } else if (what < 92 + crashes + 1) {
            name = "crash";
            x.crash();
            m.crash();
            got = 0;
            want = 0;
        } else {
            name = "recover";
            if (what == 100 && oneOf(3)) {
                int w = 1 + chance(30);
                x.crashAt(w);
                m.crashAt(w);
            }
            got = answer(() -> x.recover());
            want = answer(() -> m.recover());
        }
        due("run " + run + " call " + number, name, got, want);
        boolean isPlain = want < -5 || want > -2 && want < THREW;
        told[isPlain ? 10 : want < 0 ? (int) (10 - want) : (int) (want - THREW)]++;
        if (name.startsWith("recover") && want == 0) {
            told[20]++;
            told[21] += m.pass(3) > 0 ? 1 : 0;
            told[22] += m.pass(2) > 0 ? 1 : 0;
        }
        if (name.startsWith("recover") && want == -4) {
            told[23]++;
            told[24] += m.pass(3) == 1 ? 1 : 0;
        }
        if (down(m)) {
            told[30 + m.check()]++;
        }
    }

    /** Puts keys by rising numbers, so that leaves are half empty and pages run out. */
    private static void fill(PageLoom x, Model m, int run) {
        x.open(0);
        m.open(0);
        int many = 20 + chance(12);
        for (int k = 0; k < many; k++) {
            due("run " + run + " filling", "put 0 " + k, x.put(0, k, k), m.put(0, k, k));
        }
        if (oneOf(2)) {
            due("run " + run + " filling", "commit", x.commit(0), m.commit(0));
        }
    }

    private static void run(int run, int calls, boolean show) {
        seed = run * 7919L + 12345;
        style = chance(8);
        keys = style < 5 ? 32 : style < 7 ? 16 : 6;
        takes = style % 3 == 0 ? 24 : style % 3 == 1 ? 12 : 4;
        crashes = chance(4);
        txs = style == 2 ? 1 : 4;
        rising = style < 4 && oneOf(2);
        lastKey = 0;
        PageLoom x = new PageLoom();
        Model m = new Model();
        if (style == 0 || style == 3) {
            fill(x, m, run);
        }
        for (int number = 1; number <= calls && wrong == 0; number++) {
            step(x, m, number, run);
            String where = "run " + run + " call " + number + " (" + name + ")";
            if (show) {
                System.out.println(where);
            }
            compare(where, x, m);
            if (!down(m)) {
                holds(where, x);
            }
        }
    }

    private static int lowest, highest;
    private static boolean upwards;

    /** A call of one transaction while keys are put ahead and taken behind, so that inner pages come and go. */
    private static void slideOn(PageLoom x, Model m, int number, int run) {
        int what = chance(100);
        int t = 0;
        int ahead = upwards ? highest : 31 - highest;
        int behind = upwards ? lowest : 31 - lowest;
        int page = chance(12);
        int w = 1 + chance(25);
        long got;
        long want;
        if (down(m)) {
            name = "recover";
            got = answer(() -> x.recover());
            want = answer(() -> m.recover());
        } else if (!m.isOpen(t)) {
            name = "open " + t;
            got = answer(() -> { x.open(t); return 0; });
            want = answer(() -> { m.open(t); return 0; });
        } else if (what < 45 && highest < 32 && (highest - lowest < 13 || oneOf(4))) {
            highest++;
            name = "put " + t + " " + ahead;
            got = answer(() -> x.put(t, ahead, 0));
            want = answer(() -> m.put(t, ahead, 0));
        } else if (what < 80 && lowest < highest) {
            lowest++;
            name = "take " + t + " " + behind;
            got = answer(() -> x.take(t, behind));
            want = answer(() -> m.take(t, behind));
        } else if (what < 93) {
            name = "write " + page;
            got = answer(() -> x.write(page));
            want = answer(() -> m.write(page));
        } else if (what < 94) {
            name = "mark";
            got = answer(() -> x.mark());
            want = answer(() -> m.mark());
        } else if (what < 97) {
            name = "commit " + t;
            got = answer(() -> x.commit(t));
            want = answer(() -> m.commit(t));
        } else if (what < 98) {
            name = "crashAt " + w;
            x.crashAt(w);
            m.crashAt(w);
            got = 0;
            want = 0;
        } else {
            name = "crash";
            x.crash();
            m.crash();
            got = 0;
            want = 0;
        }
        due("run " + run + " call " + number, name, got, want);
        if (lowest == highest && highest == 32) {
            lowest = 0;
            highest = 0;
            upwards = !upwards;
        }
        if (down(m)) {
            told[30 + m.check()]++;
        }
    }

    private static void slide(int run) {
        seed = run * 104729L + 777;
        lowest = 0;
        highest = 0;
        upwards = oneOf(2);
        PageLoom x = new PageLoom();
        Model m = new Model();
        for (int number = 1; number <= 220 && wrong == 0; number++) {
            slideOn(x, m, number, run);
            String where = "sliding run " + run + " call " + number + " (" + name + ")";
            compare(where, x, m);
            if (!down(m)) {
                holds(where, x);
            }
        }
    }

    /**
     * A run of one transaction that ends with a key of an inner page, all leaves behind which are bare, that is not
     * less than the key behind it in the root: runs by chance alone come to the like of it far too seldom.
     */
    private static final String RARE = ""
            + "open, put 0, put 1, put 2, put 3, put 4, put 5, put 6, put 7, put 8, put 9, put 10, put 11, "
            + "put 12, take 0, take 1, take 2, take 3, take 4, take 5, take 6, take 7, put 13, put 14, put 15, "
            + "put 16, put 17, put 18, put 19, put 20, take 8, take 9, take 10, take 11, take 12, take 13, "
            + "take 14, take 15, put 21, put 22, put 23, put 24, write 0, write 2, write 6, mark, put 16, "
            + "put 18, put 22, take 20, commit, open, take 21, crashAt 2, commit, recover, open, take 22, "
            + "take 23, take 24, write 0, put 20, put 22, put 14, put 15, put 13, put 22, take 18, take 25, "
            + "put 16, put 21, put 13, put 22, take 19, take 23, take 15, put 18, put 19, take 20, take 21, "
            + "take 22, put 20, take 13, take 14, put 21, put 22, put 23, put 19, put 24, put 25, commit, "
            + "write 3, write 4, open, put 18, mark, crashAt 2, put 26, recover, write 5, write 6, crash";

    private static void rareCall(PageLoom x, Model m, String call, int run) {
        String[] words = call.split(" ");
        int a = words.length > 1 ? Integer.parseInt(words[1]) : 0;
        long got;
        long want;
        name = call;
        switch (words[0]) {
            case "open" -> {
                got = answer(() -> { x.open(0); return 0; });
                want = answer(() -> { m.open(0); return 0; });
            }
            case "put" -> {
                got = answer(() -> x.put(0, a, 0));
                want = answer(() -> m.put(0, a, 0));
            }
            case "take" -> {
                got = answer(() -> x.take(0, a));
                want = answer(() -> m.take(0, a));
            }
            case "write" -> {
                got = answer(() -> x.write(a));
                want = answer(() -> m.write(a));
            }
            case "mark" -> {
                got = answer(() -> x.mark());
                want = answer(() -> m.mark());
            }
            case "commit" -> {
                got = answer(() -> x.commit(0));
                want = answer(() -> m.commit(0));
            }
            case "recover" -> {
                got = answer(() -> x.recover());
                want = answer(() -> m.recover());
            }
            case "crashAt" -> {
                got = answer(() -> { x.crashAt(a); return 0; });
                want = answer(() -> { m.crashAt(a); return 0; });
            }
            default -> {
                got = answer(() -> { x.crash(); return 0; });
                want = answer(() -> { m.crash(); return 0; });
            }
        }
        due("rare run " + run, name, got, want);
    }

    /** The rare run: the first time as it stands, then with calls left out, or other ones ahead of them. */
    private static void nearRare(int run) {
        seed = run * 15485863L + 99;
        PageLoom x = new PageLoom();
        Model m = new Model();
        int changes = run == 1 ? 0 : 1 + chance(6);
        String[] calls = RARE.split(", ");
        boolean[] changed = new boolean[calls.length];
        for (int i = 0; i < changes; i++) {
            changed[calls.length - 1 - chance(oneOf(2) ? 20 : calls.length)] = true;
        }
        for (int i = 0; i < calls.length && wrong == 0; i++) {
            if (changed[i]) {
                String[] others = {"put " + chance(32), "take " + chance(32), "write " + chance(12),
                        "crashAt " + (1 + chance(12)), "commit", "crash", "mark", "nothing"};
                String other = others[chance(8)];
                if (!other.equals("nothing")) {
                    rareCall(x, m, other, run);
                }
            }
            if (!changed[i] || oneOf(2)) {
                rareCall(x, m, calls[i], run);
            }
            if (down(m) && i < calls.length - 1 && !calls[i + 1].equals("recover")) {
                compare("rare run " + run + " call " + i, x, m);
                rareCall(x, m, "recover", run);
            }
            if (!m.isOpen(0) && !down(m)) {
                rareCall(x, m, "open", run);
            }
            compare("rare run " + run + " call " + i + " (" + name + ")", x, m);
        }
        if (run == 1) {
            due("the rare run", "check", x.check(), 3);
            due("the rare run", "page 5's key", x.entry(5, 1) / 100, 18);
        }
        told[30 + m.check()]++;
    }

    public static void main(String[] args) {
        int runs = args.length > 0 ? Integer.parseInt(args[0]) : 300;
        for (int run = 1; run <= runs && wrong == 0; run++) {
            run(run, run % 5 == 0 ? 512 : 160, false);
            slide(run);
            nearRare(run);
        }
        if (runs > 300) {
            System.out.println("how often each kind of answer came: " + Arrays.toString(told));
        }
        System.out.println(wrong == 0 ? "all answers are as due" : wrong + " answers are not as due");
        if (wrong != 0) {
            System.exit(1);
        }
    }
}
