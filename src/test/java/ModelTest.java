import java.util.Arrays;

/** Runs of calls by chance, always the same ones, on PageLoom and on the model: all that can be asked must be alike. */
public final class ModelTest {
    private static int wrong = 0;
    private static long seed;

    private static int chance(int below) {
        seed = seed * 6364136223846793005L + 1442695040888963407L;
        return (int) Math.floorMod(seed >>> 33, (long) below);
    }

    private static boolean oneOf(int many) {
        return chance(many) == 0;
    }

    private interface Call {
        long now();
    }

    private static final long THREW = 1_000_000_000L;

    private static long answer(Call call) {
        try {
            return call.now();
        } catch (IllegalArgumentException e) {
            return THREW + 1;
        } catch (IllegalStateException e) {
            return THREW + 2;
        } catch (IndexOutOfBoundsException e) {
            // What the machine throws is of a class below this one.
            return e.getClass() == IndexOutOfBoundsException.class ? THREW + 3 : THREW + 4;
        }
    }

    private static void due(String where, String what, long got, long want) {
        if (got != want) {
            wrong++;
            if (wrong <= 20) {
                System.out.println(where + ": " + what + " answered " + got + ", due is " + want);
            }
        }
    }

    private static void compare(String where, PageLoom x, Model m) {
        due(where, "records", x.records(), m.records());
        due(where, "durable", x.durable(), m.durable());
        due(where, "writes", x.writes(), m.writes());
        due(where, "hand", x.hand(), m.hand());
        for (int i = 0; i < 4; i++) {
            due(where, "waitsFor " + i, x.waitsFor(i), m.waitsFor(i));
            due(where, "pass " + i, x.pass(i), m.pass(i));
            for (int w = 0; w < 3; w++) {
                due(where, "frame " + i + " " + w, x.frame(i, w), m.frame(i, w));
            }
        }
        for (int p = 0; p < 24; p++) {
            for (int w = 0; w < 4; w++) {
                due(where, "page " + p + " " + w, x.page(p, w), m.page(p, w));
            }
            int n = Math.max(0, m.page(p, 2)) + 1;
            for (int at = 0; at < n; at++) {
                due(where, "entry " + p + " " + at, x.entry(p, at), m.entry(p, at));
            }
        }
        for (int r = Math.max(1, m.records() - 40); r <= m.records(); r++) {
            for (int w = 0; w < 5; w++) {
                due(where, "record " + r + " " + w, x.record(r, w), m.record(r, w));
            }
        }
        for (int k = 0; k < 32; k++) {
            due(where, "holder " + k, x.holder(k), m.holder(k));
            due(where, "plain " + k, x.plain(k), m.plain(k));
        }
        due(where, "agrees", x.agrees() ? 1 : 0, m.agrees() ? 1 : 0);
        due(where, "check", x.check(), m.check());
    }

    /** What must hold whatever is called, as long as there was no crash since. */
    private static void holds(String where, PageLoom x) {
        due(where, "agrees without a crash", x.agrees() ? 1 : 0, 1);
        due(where, "check without a crash", x.check(), 0);
    }

    private static int arg(int below) {
        return oneOf(200) ? (oneOf(2) ? -1 : below) : chance(below);
    }

    private static int style, keys, takes, crashes, txs, lastKey;
    private static boolean rising;
    private static final int[] told = new int[40];

    private static String name;

    private static boolean down(Model m) {
        return m.isDown();
    }

    private static int someone(Model m) {
        int t = arg(txs);
        for (int tries = 0; tries < 3 && !m.isOpen(t); tries++) {
            t = arg(txs);
        }
        return t;
    }

    private static void step(PageLoom x, Model m, int number, int run) {
        int t = someone(m);
        int k = rising && !oneOf(3) ? (lastKey + (oneOf(8) ? 5 : 1)) % keys : arg(keys);
        lastKey = Math.max(0, k);
        int v = arg(1000);
        int what = chance(100);
        long got;
        long want;
        if (down(m) && !oneOf(6)) {
            what = 100;
        }
        if (!m.isOpen(t) && what < 80 && !oneOf(12)) {
            what = 0;
        }
        if (what < 5 || number < 4 && what < 100) {
            name = "open " + t;
            got = answer(() -> { x.open(t); return 0; });
            want = answer(() -> { m.open(t); return 0; });
        } else if (what < 62 - takes) {
            name = "put " + t + " " + k + " " + v;
            got = answer(() -> x.put(t, k, v));
            want = answer(() -> m.put(t, k, v));
        } else if (what < 62) {
            name = "take " + t + " " + k;
            got = answer(() -> x.take(t, k));
            want = answer(() -> m.take(t, k));
        } else if (what < 67) {
            name = "read " + t + " " + k;
            got = answer(() -> x.read(t, k));
            want = answer(() -> m.read(t, k));
        } else if (what < 68) {
            name = "place " + t;
            got = answer(() -> x.place(t));
            want = answer(() -> m.place(t));
        } else if (what < 72) {
            int p = oneOf(20) ? m.records() + 1 : chance(m.records() + 1);
            name = "back " + t + " " + p;
            got = answer(() -> x.back(t, p));
            want = answer(() -> m.back(t, p));
        } else if (what < 80) {
            name = "commit " + t;
            got = answer(() -> x.commit(t));
            want = answer(() -> m.commit(t));
        } else if (what < 84) {
            name = "undo " + t;
            got = answer(() -> x.undo(t));
            want = answer(() -> m.undo(t));
        } else if (what < 87) {
            name = "mark";
            got = answer(() -> x.mark());
            want = answer(() -> m.mark());
        } else if (what < 92) {
            int p = arg(24);
            name = "write " + p;
            got = answer(() -> x.write(p));
            want = answer(() -> m.write(p));
        } else if (what < 92 + crashes) {
            int w = oneOf(50) ? (oneOf(2) ? -1 : 1000) : oneOf(10) ? 0 : 1 + chance(40);
            name = "crashAt " + w;
            got = answer(() -> { x.crashAt(w); return 0; });
            want = answer(() -> { m.crashAt(w); return 0; });
        } else if (what < 92 + crashes + 1) {
            name = "crash";
            x.crash();
            m.crash();
            got = 0;
            want = 0;
        } else {
            name = "recover";
            if (what == 100 && oneOf(3)) {
                int w = 1 + chance(30);
                x.crashAt(w);
                m.crashAt(w);
            }
            got = answer(() -> x.recover());
            want = answer(() -> m.recover());
        }
        due("run " + run + " call " + number, name, got, want);
        int slot = want >= THREW ? (int) (want - THREW) : want == -2 ? 12 : want == -3 ? 13 : want == -4 ? 14 : want == -5 ? 15 : 10;
        told[slot]++;
        if (name.startsWith("recover") && want == 0) {
            told[20]++;
            told[21] += m.pass(3) > 0 ? 1 : 0;
            told[22] += m.pass(2) > 0 ? 1 : 0;
        }
        if (name.startsWith("recover") && want == -4) {
            told[23]++;
            told[24] += m.pass(3) == 1 ? 1 : 0;
        }
        if (down(m)) {
            told[30 + m.check()]++;
        }
    }

    /** Puts keys by rising numbers, so that leaves are half empty and pages run out. */
    private static void fill(PageLoom x, Model m, int run) {
        x.open(0);
        m.open(0);
        int many = 20 + chance(12);
        for (int k = 0; k < many; k++) {
            due("run " + run + " filling", "put 0 " + k, x.put(0, k, k), m.put(0, k, k));
        }
        if (oneOf(2)) {
            due("run " + run + " filling", "commit", x.commit(0), m.commit(0));
        }
    }

    private static void run(int run, int calls, boolean show) {
        seed = run * 7919L + 12345;
        style = chance(8);
        keys = style < 5 ? 32 : style < 7 ? 16 : 6;
        takes = style % 3 == 0 ? 24 : style % 3 == 1 ? 12 : 4;
        crashes = chance(4);
        txs = style == 2 ? 1 : 4;
        rising = style < 4 && oneOf(2);
        lastKey = 0;
        PageLoom x = new PageLoom();
        Model m = new Model();
        if (style == 0 || style == 3) {
            fill(x, m, run);
        }
        for (int number = 1; number <= calls && wrong == 0; number++) {
            step(x, m, number, run);
            String where = "run " + run + " call " + number + " (" + name + ")";
            if (show) {
                System.out.println(where);
            }
            compare(where, x, m);
            if (!down(m)) {
                holds(where, x);
            }
        }
    }

    public static void main(String[] args) {
        int runs = args.length > 0 ? Integer.parseInt(args[0]) : 300;
        for (int run = 1; run <= runs && wrong == 0; run++) {
            run(run, run % 5 == 0 ? 512 : 160, false);
        }
        if (runs > 300) {
            System.out.println("how often each kind of answer came: " + Arrays.toString(told));
        }
        System.out.println(wrong == 0 ? "all answers are as due" : wrong + " answers are not as due");
        if (wrong != 0) {
            System.exit(1);
        }
    }
}
